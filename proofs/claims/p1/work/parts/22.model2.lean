theorem d_X9_endBy_0 : decode prog_11_method_83_code 0 = .ok (.aload_n 0, 1) := by decide +kernel
theorem k_1963 : Cond.code ⟨"PinchedBillModel", "forgets", "()V"⟩ prog_11_method_81_code 2 none ∈ gd_tbl := gd_in 1963 (by decide +kernel) (by decide +kernel)
theorem k_1960 : Cond.methodLink "PinchedBillModel" 397 ⟨"PinchedBillModel", "forgets", "()V"⟩ ∈ gd_tbl := gd_in 1960 (by decide +kernel) (by decide +kernel)
theorem k_1962 : Cond.instanceMethod ⟨"PinchedBillModel", "forgets", "()V"⟩ ∈ gd_tbl := gd_in 1962 (by decide +kernel) (by decide +kernel)
theorem k_93 : Cond.selects "PinchedBillModel" ⟨"PinchedBillModel", "forgets", "()V"⟩ ⟨"PinchedBillModel", "forgets", "()V"⟩ ∈ gd_tbl := gd_in 93 (by decide +kernel) (by decide +kernel)
theorem kV_PinchedBillModel_397 : kV "PinchedBillModel" 397 ⟨"PinchedBillModel", "forgets", "()V"⟩ prog_11_method_81_code 2 none 0 := ⟨k_1960, k_1962, k_93, k_122, k_1963, by decide, by decide, by decide +kernel⟩
theorem d_X9_endBy_1 : decode prog_11_method_83_code 1 = .ok (.invokevirtual 397, 3) := by decide +kernel
theorem d_X9_endBy_4 : decode prog_11_method_83_code 4 = .ok (.aload_n 0, 1) := by decide +kernel
theorem d_X9_endBy_5 : decode prog_11_method_83_code 5 = .ok (.iload_n 1, 1) := by decide +kernel
theorem d_X9_endBy_6 : decode prog_11_method_83_code 6 = .ok (.iconst (-1), 1) := by decide +kernel
theorem k_1966 : Cond.code ⟨"PinchedBillModel", "stateOf", "(II)I"⟩ prog_11_method_79_code 2 (some .int) ∈ gd_tbl := gd_in 1966 (by decide +kernel) (by decide +kernel)
theorem k_1964 : Cond.methodLink "PinchedBillModel" 391 ⟨"PinchedBillModel", "stateOf", "(II)I"⟩ ∈ gd_tbl := gd_in 1964 (by decide +kernel) (by decide +kernel)
theorem k_1965 : Cond.static ⟨"PinchedBillModel", "stateOf", "(II)I"⟩ ∈ gd_tbl := gd_in 1965 (by decide +kernel) (by decide +kernel)
theorem kS_PinchedBillModel_391 : kS "PinchedBillModel" 391 ⟨"PinchedBillModel", "stateOf", "(II)I"⟩ prog_11_method_79_code 2 (some .int) 2 := ⟨k_1964, k_1965, k_122, k_1966, by decide, by decide, by decide +kernel⟩
theorem d_X9_endBy_7 : decode prog_11_method_83_code 7 = .ok (.invokestatic 391, 3) := by decide +kernel
theorem d_X9_endBy_10 : decode prog_11_method_83_code 10 = .ok (.iload_n 2, 1) := by decide +kernel
theorem k_1970 : Cond.code ⟨"PinchedBillModel", "laysFrom", "(II)V"⟩ prog_11_method_82_code 9 none ∈ gd_tbl := gd_in 1970 (by decide +kernel) (by decide +kernel)
theorem k_1967 : Cond.methodLink "PinchedBillModel" 400 ⟨"PinchedBillModel", "laysFrom", "(II)V"⟩ ∈ gd_tbl := gd_in 1967 (by decide +kernel) (by decide +kernel)
theorem k_1969 : Cond.instanceMethod ⟨"PinchedBillModel", "laysFrom", "(II)V"⟩ ∈ gd_tbl := gd_in 1969 (by decide +kernel) (by decide +kernel)
theorem k_94 : Cond.selects "PinchedBillModel" ⟨"PinchedBillModel", "laysFrom", "(II)V"⟩ ⟨"PinchedBillModel", "laysFrom", "(II)V"⟩ ∈ gd_tbl := gd_in 94 (by decide +kernel) (by decide +kernel)
theorem kV_PinchedBillModel_400 : kV "PinchedBillModel" 400 ⟨"PinchedBillModel", "laysFrom", "(II)V"⟩ prog_11_method_82_code 9 none 2 := ⟨k_1967, k_1969, k_94, k_122, k_1970, by decide, by decide, by decide +kernel⟩
theorem d_X9_endBy_11 : decode prog_11_method_83_code 11 = .ok (.invokevirtual 400, 3) := by decide +kernel
theorem d_X9_endBy_14 : decode prog_11_method_83_code 14 = .ok (.aload_n 0, 1) := by decide +kernel
theorem d_X9_endBy_15 : decode prog_11_method_83_code 15 = .ok (.getfield 45, 3) := by decide +kernel
theorem d_X9_endBy_18 : decode prog_11_method_83_code 18 = .ok (.iload_n 1, 1) := by decide +kernel
theorem d_X9_endBy_19 : decode prog_11_method_83_code 19 = .ok (.iconst (-1), 1) := by decide +kernel
theorem d_X9_endBy_20 : decode prog_11_method_83_code 20 = .ok (.invokestatic 391, 3) := by decide +kernel
theorem d_X9_endBy_23 : decode prog_11_method_83_code 23 = .ok (.iaload, 1) := by decide +kernel
theorem d_X9_endBy_24 : decode prog_11_method_83_code 24 = .ok (.ireturn, 1) := by decide +kernel
theorem d_X9_endNow_0 : decode prog_11_method_84_code 0 = .ok (.aload_n 0, 1) := by decide +kernel
theorem d_X9_endNow_1 : decode prog_11_method_84_code 1 = .ok (.iload_n 1, 1) := by decide +kernel
theorem d_X9_endNow_2 : decode prog_11_method_84_code 2 = .ok (.aload_n 0, 1) := by decide +kernel
theorem d_X9_endNow_3 : decode prog_11_method_84_code 3 = .ok (.getfield 9, 3) := by decide +kernel
theorem d_X9_endNow_6 : decode prog_11_method_84_code 6 = .ok (.bipush 8, 2) := by decide +kernel
theorem d_X9_endNow_8 : decode prog_11_method_84_code 8 = .ok (.iaload, 1) := by decide +kernel
theorem k_1959 : Cond.code ⟨"PinchedBillModel", "endBy", "(II)I"⟩ prog_11_method_83_code 3 (some .int) ∈ gd_tbl := gd_in 1959 (by decide +kernel) (by decide +kernel)
theorem k_1956 : Cond.methodLink "PinchedBillModel" 403 ⟨"PinchedBillModel", "endBy", "(II)I"⟩ ∈ gd_tbl := gd_in 1956 (by decide +kernel) (by decide +kernel)
theorem k_1958 : Cond.instanceMethod ⟨"PinchedBillModel", "endBy", "(II)I"⟩ ∈ gd_tbl := gd_in 1958 (by decide +kernel) (by decide +kernel)
theorem k_92 : Cond.selects "PinchedBillModel" ⟨"PinchedBillModel", "endBy", "(II)I"⟩ ⟨"PinchedBillModel", "endBy", "(II)I"⟩ ∈ gd_tbl := gd_in 92 (by decide +kernel) (by decide +kernel)
theorem kV_PinchedBillModel_403 : kV "PinchedBillModel" 403 ⟨"PinchedBillModel", "endBy", "(II)I"⟩ prog_11_method_83_code 3 (some .int) 2 := ⟨k_1956, k_1958, k_92, k_122, k_1959, by decide, by decide, by decide +kernel⟩
theorem d_X9_endNow_9 : decode prog_11_method_84_code 9 = .ok (.invokevirtual 403, 3) := by decide +kernel
theorem d_X9_endNow_12 : decode prog_11_method_84_code 12 = .ok (.ireturn, 1) := by decide +kernel
theorem d_X9_laysAll_0 : decode prog_11_method_85_code 0 = .ok (.aload_n 0, 1) := by decide +kernel
theorem d_X9_laysAll_1 : decode prog_11_method_85_code 1 = .ok (.invokevirtual 397, 3) := by decide +kernel
theorem d_X9_laysAll_4 : decode prog_11_method_85_code 4 = .ok (.iconst 0, 1) := by decide +kernel
theorem d_X9_laysAll_5 : decode prog_11_method_85_code 5 = .ok (.istore_n 1, 1) := by decide +kernel
theorem d_X9_laysAll_6 : decode prog_11_method_85_code 6 = .ok (.iload_n 1, 1) := by decide +kernel
theorem d_X9_laysAll_7 : decode prog_11_method_85_code 7 = .ok (.sipush 1000, 3) := by decide +kernel
theorem d_X9_laysAll_10 : decode prog_11_method_85_code 10 = .ok (.if_icmp .ge 29, 3) := by decide +kernel
theorem d_X9_laysAll_39 : decode prog_11_method_85_code 39 = .ok (.return_, 1) := by decide +kernel
theorem d_X9_laysAll_13 : decode prog_11_method_85_code 13 = .ok (.aload_n 0, 1) := by decide +kernel
theorem d_X9_laysAll_14 : decode prog_11_method_85_code 14 = .ok (.iload_n 1, 1) := by decide +kernel
theorem d_X9_laysAll_15 : decode prog_11_method_85_code 15 = .ok (.iconst (-1), 1) := by decide +kernel
theorem d_X9_laysAll_16 : decode prog_11_method_85_code 16 = .ok (.invokestatic 391, 3) := by decide +kernel
theorem d_X9_laysAll_19 : decode prog_11_method_85_code 19 = .ok (.aload_n 0, 1) := by decide +kernel
theorem d_X9_laysAll_20 : decode prog_11_method_85_code 20 = .ok (.getfield 9, 3) := by decide +kernel
theorem d_X9_laysAll_23 : decode prog_11_method_85_code 23 = .ok (.bipush 8, 2) := by decide +kernel
theorem d_X9_laysAll_25 : decode prog_11_method_85_code 25 = .ok (.iaload, 1) := by decide +kernel
theorem d_X9_laysAll_26 : decode prog_11_method_85_code 26 = .ok (.invokevirtual 400, 3) := by decide +kernel
theorem d_X9_laysAll_29 : decode prog_11_method_85_code 29 = .ok (.iload_n 1, 1) := by decide +kernel
theorem d_X9_laysAll_30 : decode prog_11_method_85_code 30 = .ok (.aload_n 0, 1) := by decide +kernel
theorem d_X9_laysAll_31 : decode prog_11_method_85_code 31 = .ok (.invokevirtual 264, 3) := by decide +kernel
theorem d_X9_laysAll_34 : decode prog_11_method_85_code 34 = .ok (.iadd, 1) := by decide +kernel
theorem d_X9_laysAll_35 : decode prog_11_method_85_code 35 = .ok (.istore_n 1, 1) := by decide +kernel
theorem d_X9_laysAll_36 : decode prog_11_method_85_code 36 = .ok (.goto (-30), 3) := by decide +kernel
theorem d_X9_endAt_0 : decode prog_11_method_86_code 0 = .ok (.aload_n 0, 1) := by decide +kernel
theorem d_X9_endAt_1 : decode prog_11_method_86_code 1 = .ok (.getfield 45, 3) := by decide +kernel
theorem d_X9_endAt_4 : decode prog_11_method_86_code 4 = .ok (.iload_n 1, 1) := by decide +kernel
theorem d_X9_endAt_5 : decode prog_11_method_86_code 5 = .ok (.iconst (-1), 1) := by decide +kernel
theorem d_X9_endAt_6 : decode prog_11_method_86_code 6 = .ok (.invokestatic 391, 3) := by decide +kernel
theorem d_X9_endAt_9 : decode prog_11_method_86_code 9 = .ok (.iaload, 1) := by decide +kernel
theorem d_X9_endAt_10 : decode prog_11_method_86_code 10 = .ok (.ireturn, 1) := by decide +kernel
theorem d_X9_manyThatEnd_0 : decode prog_11_method_98_code 0 = .ok (.aload_n 0, 1) := by decide +kernel
theorem k_2027 : Cond.code ⟨"PinchedBillModel", "laysAll", "()V"⟩ prog_11_method_85_code 2 none ∈ gd_tbl := gd_in 2027 (by decide +kernel) (by decide +kernel)
theorem k_2024 : Cond.methodLink "PinchedBillModel" 434 ⟨"PinchedBillModel", "laysAll", "()V"⟩ ∈ gd_tbl := gd_in 2024 (by decide +kernel) (by decide +kernel)
theorem k_2026 : Cond.instanceMethod ⟨"PinchedBillModel", "laysAll", "()V"⟩ ∈ gd_tbl := gd_in 2026 (by decide +kernel) (by decide +kernel)
theorem k_101 : Cond.selects "PinchedBillModel" ⟨"PinchedBillModel", "laysAll", "()V"⟩ ⟨"PinchedBillModel", "laysAll", "()V"⟩ ∈ gd_tbl := gd_in 101 (by decide +kernel) (by decide +kernel)
theorem kV_PinchedBillModel_434 : kV "PinchedBillModel" 434 ⟨"PinchedBillModel", "laysAll", "()V"⟩ prog_11_method_85_code 2 none 0 := ⟨k_2024, k_2026, k_101, k_122, k_2027, by decide, by decide, by decide +kernel⟩
theorem d_X9_manyThatEnd_1 : decode prog_11_method_98_code 1 = .ok (.invokevirtual 434, 3) := by decide +kernel
theorem d_X9_manyThatEnd_4 : decode prog_11_method_98_code 4 = .ok (.iconst 0, 1) := by decide +kernel
theorem d_X9_manyThatEnd_5 : decode prog_11_method_98_code 5 = .ok (.istore_n 2, 1) := by decide +kernel
theorem d_X9_manyThatEnd_6 : decode prog_11_method_98_code 6 = .ok (.iconst 0, 1) := by decide +kernel
theorem d_X9_manyThatEnd_7 : decode prog_11_method_98_code 7 = .ok (.istore_n 3, 1) := by decide +kernel
theorem d_X9_manyThatEnd_8 : decode prog_11_method_98_code 8 = .ok (.iload_n 3, 1) := by decide +kernel
theorem d_X9_manyThatEnd_9 : decode prog_11_method_98_code 9 = .ok (.sipush 1000, 3) := by decide +kernel
theorem d_X9_manyThatEnd_12 : decode prog_11_method_98_code 12 = .ok (.if_icmp .ge 30, 3) := by decide +kernel
theorem d_X9_manyThatEnd_42 : decode prog_11_method_98_code 42 = .ok (.iload_n 2, 1) := by decide +kernel
theorem d_X9_manyThatEnd_43 : decode prog_11_method_98_code 43 = .ok (.ireturn, 1) := by decide +kernel
theorem d_X9_manyThatEnd_15 : decode prog_11_method_98_code 15 = .ok (.iload_n 2, 1) := by decide +kernel
theorem d_X9_manyThatEnd_16 : decode prog_11_method_98_code 16 = .ok (.aload_n 0, 1) := by decide +kernel
theorem d_X9_manyThatEnd_17 : decode prog_11_method_98_code 17 = .ok (.iload_n 3, 1) := by decide +kernel
theorem k_2031 : Cond.code ⟨"PinchedBillModel", "endAt", "(I)I"⟩ prog_11_method_86_code 2 (some .int) ∈ gd_tbl := gd_in 2031 (by decide +kernel) (by decide +kernel)
theorem k_2028 : Cond.methodLink "PinchedBillModel" 437 ⟨"PinchedBillModel", "endAt", "(I)I"⟩ ∈ gd_tbl := gd_in 2028 (by decide +kernel) (by decide +kernel)
theorem k_2030 : Cond.instanceMethod ⟨"PinchedBillModel", "endAt", "(I)I"⟩ ∈ gd_tbl := gd_in 2030 (by decide +kernel) (by decide +kernel)
theorem k_102 : Cond.selects "PinchedBillModel" ⟨"PinchedBillModel", "endAt", "(I)I"⟩ ⟨"PinchedBillModel", "endAt", "(I)I"⟩ ∈ gd_tbl := gd_in 102 (by decide +kernel) (by decide +kernel)
theorem kV_PinchedBillModel_437 : kV "PinchedBillModel" 437 ⟨"PinchedBillModel", "endAt", "(I)I"⟩ prog_11_method_86_code 2 (some .int) 1 := ⟨k_2028, k_2030, k_102, k_122, k_2031, by decide, by decide, by decide +kernel⟩
theorem d_X9_manyThatEnd_18 : decode prog_11_method_98_code 18 = .ok (.invokevirtual 437, 3) := by decide +kernel
theorem d_X9_manyThatEnd_21 : decode prog_11_method_98_code 21 = .ok (.iload_n 1, 1) := by decide +kernel
theorem d_X9_manyThatEnd_22 : decode prog_11_method_98_code 22 = .ok (.if_icmp .ne 7, 3) := by decide +kernel
theorem d_X9_manyThatEnd_29 : decode prog_11_method_98_code 29 = .ok (.iconst 0, 1) := by decide +kernel
theorem d_X9_manyThatEnd_30 : decode prog_11_method_98_code 30 = .ok (.iadd, 1) := by decide +kernel
theorem d_X9_manyThatEnd_31 : decode prog_11_method_98_code 31 = .ok (.istore_n 2, 1) := by decide +kernel
theorem d_X9_manyThatEnd_32 : decode prog_11_method_98_code 32 = .ok (.iload_n 3, 1) := by decide +kernel
theorem d_X9_manyThatEnd_33 : decode prog_11_method_98_code 33 = .ok (.aload_n 0, 1) := by decide +kernel
theorem d_X9_manyThatEnd_34 : decode prog_11_method_98_code 34 = .ok (.invokevirtual 264, 3) := by decide +kernel
theorem d_X9_manyThatEnd_37 : decode prog_11_method_98_code 37 = .ok (.iadd, 1) := by decide +kernel
theorem d_X9_manyThatEnd_38 : decode prog_11_method_98_code 38 = .ok (.istore_n 3, 1) := by decide +kernel
theorem d_X9_manyThatEnd_39 : decode prog_11_method_98_code 39 = .ok (.goto (-31), 3) := by decide +kernel
theorem d_X9_manyThatEnd_25 : decode prog_11_method_98_code 25 = .ok (.iconst 1, 1) := by decide +kernel
theorem d_X9_manyThatEnd_26 : decode prog_11_method_98_code 26 = .ok (.goto 4, 3) := by decide +kernel
theorem d_X9_goesOn_0 : decode prog_11_method_89_code 0 = .ok (.iload_n 1, 1) := by decide +kernel
theorem d_X9_goesOn_1 : decode prog_11_method_89_code 1 = .ok (.istore_n 3, 1) := by decide +kernel
theorem d_X9_goesOn_2 : decode prog_11_method_89_code 2 = .ok (.iconst 0, 1) := by decide +kernel
theorem d_X9_goesOn_3 : decode prog_11_method_89_code 3 = .ok (.istore 4, 2) := by decide +kernel
theorem d_X9_goesOn_5 : decode prog_11_method_89_code 5 = .ok (.iload 4, 2) := by decide +kernel
theorem d_X9_goesOn_7 : decode prog_11_method_89_code 7 = .ok (.iload_n 2, 1) := by decide +kernel
theorem d_X9_goesOn_8 : decode prog_11_method_89_code 8 = .ok (.if_icmp .ge 34, 3) := by decide +kernel
theorem d_X9_goesOn_42 : decode prog_11_method_89_code 42 = .ok (.iload_n 3, 1) := by decide +kernel
theorem d_X9_goesOn_43 : decode prog_11_method_89_code 43 = .ok (.ireturn, 1) := by decide +kernel
theorem d_X9_goesOn_11 : decode prog_11_method_89_code 11 = .ok (.aload_n 0, 1) := by decide +kernel
theorem d_X9_goesOn_12 : decode prog_11_method_89_code 12 = .ok (.iload_n 3, 1) := by decide +kernel
theorem d_X9_goesOn_13 : decode prog_11_method_89_code 13 = .ok (.aload_n 0, 1) := by decide +kernel
theorem d_X9_goesOn_14 : decode prog_11_method_89_code 14 = .ok (.getfield 9, 3) := by decide +kernel
theorem d_X9_goesOn_17 : decode prog_11_method_89_code 17 = .ok (.bipush 8, 2) := by decide +kernel
theorem d_X9_goesOn_19 : decode prog_11_method_89_code 19 = .ok (.iaload, 1) := by decide +kernel
theorem d_X9_goesOn_20 : decode prog_11_method_89_code 20 = .ok (.invokevirtual 394, 3) := by decide +kernel
theorem d_X9_goesOn_23 : decode prog_11_method_89_code 23 = .ok (.istore 5, 2) := by decide +kernel
theorem d_X9_goesOn_25 : decode prog_11_method_89_code 25 = .ok (.iload 5, 2) := by decide +kernel
theorem d_X9_goesOn_27 : decode prog_11_method_89_code 27 = .ok (.iconst (-1), 1) := by decide +kernel
theorem d_X9_goesOn_28 : decode prog_11_method_89_code 28 = .ok (.if_icmp .ne 5, 3) := by decide +kernel
theorem d_X9_goesOn_31 : decode prog_11_method_89_code 31 = .ok (.iload_n 3, 1) := by decide +kernel
theorem d_X9_goesOn_32 : decode prog_11_method_89_code 32 = .ok (.ireturn, 1) := by decide +kernel
theorem d_X9_billIn_0 : decode prog_11_method_90_code 0 = .ok (.aload_n 0, 1) := by decide +kernel
theorem d_X9_billIn_1 : decode prog_11_method_90_code 1 = .ok (.iload_n 1, 1) := by decide +kernel
theorem d_X9_billIn_2 : decode prog_11_method_90_code 2 = .ok (.iconst (-1), 1) := by decide +kernel
theorem d_X9_billIn_3 : decode prog_11_method_90_code 3 = .ok (.invokestatic 391, 3) := by decide +kernel
theorem d_X9_billIn_6 : decode prog_11_method_90_code 6 = .ok (.iload_n 2, 1) := by decide +kernel
theorem k_1994 : Cond.code ⟨"PinchedBillModel", "goesOn", "(II)I"⟩ prog_11_method_89_code 6 (some .int) ∈ gd_tbl := gd_in 1994 (by decide +kernel) (by decide +kernel)
theorem k_1991 : Cond.methodLink "PinchedBillModel" 409 ⟨"PinchedBillModel", "goesOn", "(II)I"⟩ ∈ gd_tbl := gd_in 1991 (by decide +kernel) (by decide +kernel)
theorem k_1993 : Cond.instanceMethod ⟨"PinchedBillModel", "goesOn", "(II)I"⟩ ∈ gd_tbl := gd_in 1993 (by decide +kernel) (by decide +kernel)
theorem k_97 : Cond.selects "PinchedBillModel" ⟨"PinchedBillModel", "goesOn", "(II)I"⟩ ⟨"PinchedBillModel", "goesOn", "(II)I"⟩ ∈ gd_tbl := gd_in 97 (by decide +kernel) (by decide +kernel)
theorem kV_PinchedBillModel_409 : kV "PinchedBillModel" 409 ⟨"PinchedBillModel", "goesOn", "(II)I"⟩ prog_11_method_89_code 6 (some .int) 2 := ⟨k_1991, k_1993, k_97, k_122, k_1994, by decide, by decide, by decide +kernel⟩
theorem d_X9_billIn_7 : decode prog_11_method_90_code 7 = .ok (.invokevirtual 409, 3) := by decide +kernel
theorem d_X9_billIn_10 : decode prog_11_method_90_code 10 = .ok (.bipush 9, 2) := by decide +kernel
theorem d_X9_billIn_12 : decode prog_11_method_90_code 12 = .ok (.idiv, 1) := by decide +kernel
theorem d_X9_billIn_13 : decode prog_11_method_90_code 13 = .ok (.ireturn, 1) := by decide +kernel
theorem d_X9_isFar_0 : decode prog_11_method_91_code 0 = .ok (.iload_n 0, 1) := by decide +kernel
theorem d_X9_isFar_1 : decode prog_11_method_91_code 1 = .ok (.i2l, 1) := by decide +kernel
theorem d_X9_isFar_2 : decode prog_11_method_91_code 2 = .ok (.lconst 0, 1) := by decide +kernel
theorem k_1986 : Cond.constantLong "PinchedBillModel" 412 9999 ∈ gd_tbl := gd_in 1986 (by decide +kernel) (by decide +kernel)
theorem d_X9_isFar_3 : decode prog_11_method_91_code 3 = .ok (.ldc2_w 412, 3) := by decide +kernel
theorem d_X9_isFar_6 : decode prog_11_method_91_code 6 = .ok (.invokestatic 140, 3) := by decide +kernel
theorem d_X9_isFar_9 : decode prog_11_method_91_code 9 = .ok (.ireturn, 1) := by decide +kernel
theorem d_X9_laysRing_0 : decode prog_11_method_93_code 0 = .ok (.aload_n 0, 1) := by decide +kernel
theorem d_X9_laysRing_1 : decode prog_11_method_93_code 1 = .ok (.invokevirtual 397, 3) := by decide +kernel
theorem d_X9_laysRing_4 : decode prog_11_method_93_code 4 = .ok (.iload_n 1, 1) := by decide +kernel
theorem d_X9_laysRing_5 : decode prog_11_method_93_code 5 = .ok (.iconst (-1), 1) := by decide +kernel
theorem d_X9_laysRing_6 : decode prog_11_method_93_code 6 = .ok (.invokestatic 391, 3) := by decide +kernel
theorem d_X9_laysRing_9 : decode prog_11_method_93_code 9 = .ok (.istore_n 2, 1) := by decide +kernel
theorem d_X9_laysRing_10 : decode prog_11_method_93_code 10 = .ok (.iconst 0, 1) := by decide +kernel
theorem d_X9_laysRing_11 : decode prog_11_method_93_code 11 = .ok (.istore_n 3, 1) := by decide +kernel
theorem d_X9_laysRing_12 : decode prog_11_method_93_code 12 = .ok (.iload_n 2, 1) := by decide +kernel
theorem d_X9_laysRing_13 : decode prog_11_method_93_code 13 = .ok (.iconst (-1), 1) := by decide +kernel
theorem d_X9_laysRing_14 : decode prog_11_method_93_code 14 = .ok (.if_icmp .eq 40, 3) := by decide +kernel
theorem d_X9_laysRing_17 : decode prog_11_method_93_code 17 = .ok (.aload_n 0, 1) := by decide +kernel
theorem d_X9_laysRing_18 : decode prog_11_method_93_code 18 = .ok (.getfield 45, 3) := by decide +kernel
theorem d_X9_laysRing_21 : decode prog_11_method_93_code 21 = .ok (.iload_n 2, 1) := by decide +kernel
theorem d_X9_laysRing_22 : decode prog_11_method_93_code 22 = .ok (.iaload, 1) := by decide +kernel
theorem d_X9_laysRing_23 : decode prog_11_method_93_code 23 = .ok (.bipush (-2), 2) := by decide +kernel
theorem d_X9_laysRing_25 : decode prog_11_method_93_code 25 = .ok (.if_icmp .ne 29, 3) := by decide +kernel
theorem d_X9_laysRing_28 : decode prog_11_method_93_code 28 = .ok (.aload_n 0, 1) := by decide +kernel
theorem d_X9_laysRing_29 : decode prog_11_method_93_code 29 = .ok (.getfield 45, 3) := by decide +kernel
theorem d_X9_laysRing_32 : decode prog_11_method_93_code 32 = .ok (.iload_n 2, 1) := by decide +kernel
theorem d_X9_laysRing_33 : decode prog_11_method_93_code 33 = .ok (.iload_n 3, 1) := by decide +kernel
theorem d_X9_laysRing_34 : decode prog_11_method_93_code 34 = .ok (.iastore, 1) := by decide +kernel
theorem d_X9_laysRing_35 : decode prog_11_method_93_code 35 = .ok (.iinc 3 1, 3) := by decide +kernel
theorem d_X9_laysRing_38 : decode prog_11_method_93_code 38 = .ok (.aload_n 0, 1) := by decide +kernel
theorem d_X9_laysRing_39 : decode prog_11_method_93_code 39 = .ok (.iload_n 2, 1) := by decide +kernel
theorem d_X9_laysRing_40 : decode prog_11_method_93_code 40 = .ok (.aload_n 0, 1) := by decide +kernel
theorem d_X9_laysRing_41 : decode prog_11_method_93_code 41 = .ok (.getfield 9, 3) := by decide +kernel
theorem d_X9_laysRing_44 : decode prog_11_method_93_code 44 = .ok (.bipush 8, 2) := by decide +kernel
theorem d_X9_laysRing_46 : decode prog_11_method_93_code 46 = .ok (.iaload, 1) := by decide +kernel
theorem d_X9_laysRing_47 : decode prog_11_method_93_code 47 = .ok (.invokevirtual 394, 3) := by decide +kernel
theorem d_X9_laysRing_50 : decode prog_11_method_93_code 50 = .ok (.istore_n 2, 1) := by decide +kernel
theorem d_X9_laysRing_51 : decode prog_11_method_93_code 51 = .ok (.goto (-39), 3) := by decide +kernel
theorem d_X9_laysRing_54 : decode prog_11_method_93_code 54 = .ok (.iload_n 2, 1) := by decide +kernel
theorem d_X9_laysRing_55 : decode prog_11_method_93_code 55 = .ok (.iconst (-1), 1) := by decide +kernel
theorem d_X9_laysRing_56 : decode prog_11_method_93_code 56 = .ok (.if_icmp .ne 17, 3) := by decide +kernel
theorem d_X9_laysRing_59 : decode prog_11_method_93_code 59 = .ok (.aload_n 0, 1) := by decide +kernel
theorem d_X9_laysRing_60 : decode prog_11_method_93_code 60 = .ok (.iload_n 3, 1) := by decide +kernel
theorem d_X9_laysRing_61 : decode prog_11_method_93_code 61 = .ok (.iconst 1, 1) := by decide +kernel
theorem d_X9_laysRing_62 : decode prog_11_method_93_code 62 = .ok (.isub, 1) := by decide +kernel
theorem k_1573 : Cond.fieldLink "PinchedBillModel" 420 "PinchedBillModel" "tail" "I" ∈ gd_tbl := gd_in 1573 (by decide +kernel) (by decide +kernel)
theorem d_X9_laysRing_63 : decode prog_11_method_93_code 63 = .ok (.putfield 420, 3) := by decide +kernel
theorem d_X9_laysRing_66 : decode prog_11_method_93_code 66 = .ok (.aload_n 0, 1) := by decide +kernel
theorem d_X9_laysRing_67 : decode prog_11_method_93_code 67 = .ok (.iconst 0, 1) := by decide +kernel
theorem k_1574 : Cond.fieldLink "PinchedBillModel" 423 "PinchedBillModel" "round" "I" ∈ gd_tbl := gd_in 1574 (by decide +kernel) (by decide +kernel)
theorem d_X9_laysRing_68 : decode prog_11_method_93_code 68 = .ok (.putfield 423, 3) := by decide +kernel
theorem d_X9_laysRing_71 : decode prog_11_method_93_code 71 = .ok (.iconst 0, 1) := by decide +kernel
theorem d_X9_laysRing_72 : decode prog_11_method_93_code 72 = .ok (.ireturn, 1) := by decide +kernel
theorem d_X9_isLaw_0 : decode prog_11_method_95_code 0 = .ok (.aload_n 0, 1) := by decide +kernel
theorem d_X9_isLaw_1 : decode prog_11_method_95_code 1 = .ok (.getfield 36, 3) := by decide +kernel
theorem d_X9_isLaw_4 : decode prog_11_method_95_code 4 = .ok (.iload_n 1, 1) := by decide +kernel
theorem d_X9_isLaw_5 : decode prog_11_method_95_code 5 = .ok (.iaload, 1) := by decide +kernel
theorem d_X9_isLaw_6 : decode prog_11_method_95_code 6 = .ok (.aload_n 0, 1) := by decide +kernel
theorem d_X9_isLaw_7 : decode prog_11_method_95_code 7 = .ok (.getfield 9, 3) := by decide +kernel
theorem d_X9_isLaw_10 : decode prog_11_method_95_code 10 = .ok (.bipush 8, 2) := by decide +kernel
theorem d_X9_isLaw_12 : decode prog_11_method_95_code 12 = .ok (.iaload, 1) := by decide +kernel
theorem d_X9_isLaw_13 : decode prog_11_method_95_code 13 = .ok (.iand, 1) := by decide +kernel
theorem d_X9_isLaw_14 : decode prog_11_method_95_code 14 = .ok (.ifCond .ne 7, 3) := by decide +kernel
theorem d_X9_isLaw_17 : decode prog_11_method_95_code 17 = .ok (.iconst 1, 1) := by decide +kernel
theorem d_X9_isLaw_18 : decode prog_11_method_95_code 18 = .ok (.goto 4, 3) := by decide +kernel
theorem d_X9_isLaw_22 : decode prog_11_method_95_code 22 = .ok (.ireturn, 1) := by decide +kernel
theorem d_X9_apart_0 : decode prog_11_method_102_code 0 = .ok (.iconst 0, 1) := by decide +kernel
theorem d_X9_apart_1 : decode prog_11_method_102_code 1 = .ok (.istore_n 2, 1) := by decide +kernel
theorem d_X9_apart_2 : decode prog_11_method_102_code 2 = .ok (.iconst 0, 1) := by decide +kernel
theorem d_X9_apart_3 : decode prog_11_method_102_code 3 = .ok (.istore_n 3, 1) := by decide +kernel
theorem d_X9_apart_4 : decode prog_11_method_102_code 4 = .ok (.iload_n 3, 1) := by decide +kernel
theorem d_X9_apart_5 : decode prog_11_method_102_code 5 = .ok (.iconst 3, 1) := by decide +kernel
theorem d_X9_apart_6 : decode prog_11_method_102_code 6 = .ok (.if_icmp .ge 26, 3) := by decide +kernel
theorem d_X9_apart_9 : decode prog_11_method_102_code 9 = .ok (.iload_n 2, 1) := by decide +kernel
theorem d_X9_apart_10 : decode prog_11_method_102_code 10 = .ok (.iload_n 0, 1) := by decide +kernel
theorem d_X9_apart_11 : decode prog_11_method_102_code 11 = .ok (.iload_n 3, 1) := by decide +kernel
theorem k_1511 : Cond.code ⟨"PinchedBillModel", "figure", "(II)I"⟩ prog_11_method_42_code 2 (some .int) ∈ gd_tbl := gd_in 1511 (by decide +kernel) (by decide +kernel)
theorem k_1509 : Cond.methodLink "PinchedBillModel" 288 ⟨"PinchedBillModel", "figure", "(II)I"⟩ ∈ gd_tbl := gd_in 1509 (by decide +kernel) (by decide +kernel)
theorem k_1510 : Cond.static ⟨"PinchedBillModel", "figure", "(II)I"⟩ ∈ gd_tbl := gd_in 1510 (by decide +kernel) (by decide +kernel)
theorem kS_PinchedBillModel_288 : kS "PinchedBillModel" 288 ⟨"PinchedBillModel", "figure", "(II)I"⟩ prog_11_method_42_code 2 (some .int) 2 := ⟨k_1509, k_1510, k_122, k_1511, by decide, by decide, by decide +kernel⟩
theorem d_X9_apart_12 : decode prog_11_method_102_code 12 = .ok (.invokestatic 288, 3) := by decide +kernel
theorem d_X9_apart_15 : decode prog_11_method_102_code 15 = .ok (.iload_n 1, 1) := by decide +kernel
theorem d_X9_apart_16 : decode prog_11_method_102_code 16 = .ok (.iload_n 3, 1) := by decide +kernel
theorem d_X9_apart_17 : decode prog_11_method_102_code 17 = .ok (.invokestatic 288, 3) := by decide +kernel
theorem d_X9_apart_20 : decode prog_11_method_102_code 20 = .ok (.isub, 1) := by decide +kernel
theorem k_2048 : Cond.methodLink "PinchedBillModel" 443 ⟨"java/lang/Math", "abs", "(I)I"⟩ ∈ gd_tbl := gd_in 2048 (by decide +kernel) (by decide +kernel)
theorem d_X9_apart_21 : decode prog_11_method_102_code 21 = .ok (.invokestatic 443, 3) := by decide +kernel
theorem d_X9_apart_24 : decode prog_11_method_102_code 24 = .ok (.iadd, 1) := by decide +kernel
theorem d_X9_apart_25 : decode prog_11_method_102_code 25 = .ok (.istore_n 2, 1) := by decide +kernel
theorem d_X9_apart_26 : decode prog_11_method_102_code 26 = .ok (.iinc 3 1, 3) := by decide +kernel
theorem d_X9_apart_29 : decode prog_11_method_102_code 29 = .ok (.goto (-25), 3) := by decide +kernel
theorem d_X9_apart_32 : decode prog_11_method_102_code 32 = .ok (.iload_n 2, 1) := by decide +kernel
theorem d_X9_apart_33 : decode prog_11_method_102_code 33 = .ok (.ireturn, 1) := by decide +kernel
theorem absn {x : Int32} (a : Nat) (hx : x = nI a) (ha : a < 2 ^ 31) : (if 0 ≤ x then x else 0 - x) = nI a := by
  subst hx
  rw [if_pos (show 0 ≤ nI a from n_le 0 a rfl rfl (by omega) ha)]
theorem nIc {a b : Nat} (h : a = b) : nI a = nI b := by rw [h]
theorem all_n {g e : Nat → Int32} {h : Nat → Int32} {i : Nat} (H : ∀ j, j < i → g (9 * (100 * j)) = h j) (h1 : e (9 * (100 * i)) = h i) (h2 : ∀ j, j ≠ 9 * (100 * i) → e j = g j) : ∀ j, j < i + 1 → e (9 * (100 * j)) = h j := fun j hj => by
  by_cases h3 : j = i
  · subst h3; exact h1
  · rw [h2 _ (by omega)]; exact H j (by omega)
set_option maxHeartbeats 4000000 in
set_option maxRecDepth 100000 in
theorem c_mendBy (l : Launch) (D : va_G) (ty : Nat → ClassId) (h0 : Nat) (k0 : Nat) (k1 : Nat) (k2 : Nat) (k3 : Nat) (k5 : Nat) (k19 : Nat) (k20 : Nat) (k21 : Nat) (k22 : Nat) (k23 : Nat) (k25 : Nat) (k26 : Nat) (k27 : Nat) (k30 : Nat) (k31 : Nat) (k33 : Nat) (k36 : Nat) (k37 : Nat) (k38 : Nat) (k39 : Nat) (u4 : Value) (u6 : Value) (u7 : Value) (u8 : Value) (u9 : Value) (u10 : Value) (u11 : Value) (u12 : Value) (u13 : Value) (u14 : Value) (u15 : Value) (u16 : Value) (u17 : Value) (u18 : Value) (u24 : Value) (u28 : Value) (u29 : Value) (u32 : Value) (u34 : Value) (u35 : Value) (en : Nat → Int32) (st : Nat → Int32) (wy : Nat → Int32) (b : Nat) (so : Int32) (hbd : b < 1000) : CC l D ty ⟨"PinchedBillModel", "endBy", "(II)I"⟩ prog_11_method_83_code 3 (some .int) 3 77 0 0 [.ref h0, .int (nI b), .int so] [(h0, eO 9 [.ref k0, .ref k1, .ref k2, .ref k3, u4, .ref k5, u6, u7, u8, u9, u10, u11, u12, u13, u14, u15, u16, u17, u18, .ref k19, .ref k20, .ref k21, .ref k22, .ref k23, u24, .ref k25, .ref k26, .ref k27, u28, u29, .ref k30, .ref k31, u32, .ref k33, u34, u35, .ref k36, .ref k37, .ref k38, .ref k39]), (k25, eI (ty 0) 9000 en), (k26, eI (ty 0) 9000 st), (k27, eI (ty 0) 9001 wy), (k21, eI (ty 0) 1000 (fun _ => 0))] (QI D ty (fun (r : Int32) (w : va_W) => ∃ (s9 : Nat → Int32), (s9 (9 * b) = 0) ∧ (nI b) = r ∧ w = [(h0, eO 9 [.ref k0, .ref k1, .ref k2, .ref k3, u4, .ref k5, u6, u7, u8, u9, u10, u11, u12, u13, u14, u15, u16, u17, u18, .ref k19, .ref k20, .ref k21, .ref k22, .ref k23, u24, .ref k25, .ref k26, .ref k27, u28, u29, .ref k30, .ref k31, u32, .ref k33, u34, u35, .ref k36, .ref k37, .ref k38, .ref k39]), (k26, eI (ty 0) 9000 s9)])) := by
  refine CC_of (by decide) ?_
  intro p e s m below meth c A C hP hD hS
  obtain ⟨⟨hx, hb, hml, hown, hts⟩, hr, hlocks, hnm, hK, hE, hA, hZ⟩ := id C
  refine startW [.ref h0, .int (nI b), .int so] 3 (nle rfl) (lv := [(0, .ref h0), (1, .int (nI b)), (2, .int so)]) rfl (fun ls hl => ?_)
  refine lv_aload_n hx hb d_X9_endBy_0 rfl (lv_at hl 0 rfl) ?_
  have ct_1 : Cut [(h0, eO 9 [.ref k0, .ref k1, .ref k2, .ref k3, u4, .ref k5, u6, u7, u8, u9, u10, u11, u12, u13, u14, u15, u16, u17, u18, .ref k19, .ref k20, .ref k21, .ref k22, .ref k23, u24, .ref k25, .ref k26, .ref k27, u28, u29, .ref k30, .ref k31, u32, .ref k33, u34, u35, .ref k36, .ref k37, .ref k38, .ref k39]), (k25, eI (ty 0) 9000 en), (k26, eI (ty 0) 9000 st), (k27, eI (ty 0) 9001 wy), (k21, eI (ty 0) 1000 (fun _ => 0))] [(h0, eO 9 [.ref k0, .ref k1, .ref k2, .ref k3, u4, .ref k5, u6, u7, u8, u9, u10, u11, u12, u13, u14, u15, u16, u17, u18, .ref k19, .ref k20, .ref k21, .ref k22, .ref k23, u24, .ref k25, .ref k26, .ref k27, u28, u29, .ref k30, .ref k31, u32, .ref k33, u34, u35, .ref k36, .ref k37, .ref k38, .ref k39]), (k25, eI (ty 0) 9000 en)] [(k26, eI (ty 0) 9000 st), (k27, eI (ty 0) 9001 wy), (k21, eI (ty 0) 1000 (fun _ => 0))] [0, 1] [2, 3, 4] := ⟨rfl, rfl, rfl, rfl, by decide⟩
  refine cont_V C hP hD hS ct_1 (run_V (As := []) (rest := []) C hP hD hS ct_1 (c_mforg l D ty h0 k0 k1 k2 k3 k5 k19 k20 k21 k22 k23 k25 k26 k27 k30 k31 k33 k36 k37 k38 k39 u4 u6 u7 u8 u9 u10 u11 u12 u13 u14 u15 u16 u17 u18 u24 u28 u29 u32 u34 u35 en) kV_PinchedBillModel_397 0 rfl rfl rfl rfl hl.1 rfl (nle rfl) d_X9_endBy_1 ⟨by decide, by decide, by decide, by decide⟩) (fun w_5 H locs hw_3 hP hD hS => ?_)
  obtain ⟨e9_2, he9_6, rfl⟩ := hw_3
  have hP : va_P D vwCl [(k26, eI (ty 0) 9000 st), (k27, eI (ty 0) 9001 wy), (k21, eI (ty 0) 1000 (fun _ => 0)), (h0, eO 9 [.ref k0, .ref k1, .ref k2, .ref k3, u4, .ref k5, u6, u7, u8, u9, u10, u11, u12, u13, u14, u15, u16, u17, u18, .ref k19, .ref k20, .ref k21, .ref k22, .ref k23, u24, .ref k25, .ref k26, .ref k27, u28, u29, .ref k30, .ref k31, u32, .ref k33, u34, u35, .ref k36, .ref k37, .ref k38, .ref k39]), (k25, eI (ty 0) 9000 e9_2)] H := hP
  have hD : va_D A [(k26, eI (ty 0) 9000 st), (k27, eI (ty 0) 9001 wy), (k21, eI (ty 0) 1000 (fun _ => 0)), (h0, eO 9 [.ref k0, .ref k1, .ref k2, .ref k3, u4, .ref k5, u6, u7, u8, u9, u10, u11, u12, u13, u14, u15, u16, u17, u18, .ref k19, .ref k20, .ref k21, .ref k22, .ref k23, u24, .ref k25, .ref k26, .ref k27, u28, u29, .ref k30, .ref k31, u32, .ref k33, u34, u35, .ref k36, .ref k37, .ref k38, .ref k39]), (k25, eI (ty 0) 9000 e9_2)] := hD
  refine lv_aload_n hx hb d_X9_endBy_4 rfl (lv_at hl 0 rfl) ?_
  refine lv_iload_n hx hb d_X9_endBy_5 rfl (lv_at hl 1 rfl) ?_
  refine lv_iconst (v := (-1)) hx hb d_X9_endBy_6 (by decide) ?_
  have ct_7 : Cut [(k26, eI (ty 0) 9000 st), (k27, eI (ty 0) 9001 wy), (k21, eI (ty 0) 1000 (fun _ => 0)), (h0, eO 9 [.ref k0, .ref k1, .ref k2, .ref k3, u4, .ref k5, u6, u7, u8, u9, u10, u11, u12, u13, u14, u15, u16, u17, u18, .ref k19, .ref k20, .ref k21, .ref k22, .ref k23, u24, .ref k25, .ref k26, .ref k27, u28, u29, .ref k30, .ref k31, u32, .ref k33, u34, u35, .ref k36, .ref k37, .ref k38, .ref k39]), (k25, eI (ty 0) 9000 e9_2)] [] [(k26, eI (ty 0) 9000 st), (k27, eI (ty 0) 9001 wy), (k21, eI (ty 0) 1000 (fun _ => 0)), (h0, eO 9 [.ref k0, .ref k1, .ref k2, .ref k3, u4, .ref k5, u6, u7, u8, u9, u10, u11, u12, u13, u14, u15, u16, u17, u18, .ref k19, .ref k20, .ref k21, .ref k22, .ref k23, u24, .ref k25, .ref k26, .ref k27, u28, u29, .ref k30, .ref k31, u32, .ref k33, u34, u35, .ref k36, .ref k37, .ref k38, .ref k39]), (k25, eI (ty 0) 9000 e9_2)] [] [0, 1, 2, 3, 4] := ⟨rfl, rfl, rfl, rfl, by decide⟩
  refine cont_I C hP hD hS ct_7 (run_S (As := [.int (nI b), .int (-1)]) (rest := [.ref h0]) C hP hD hS ct_7 (c_mst l D ty b hbd) kS_PinchedBillModel_391 rfl hl.1 rfl (nle rfl) d_X9_endBy_7 ⟨by decide, by decide, by decide, by decide⟩) (fun r_9 w_10 H locs hw_8 hP hD hS => ?_)
  obtain ⟨rfl, rfl⟩ := hw_8
  have hP : va_P D vwCl [(k26, eI (ty 0) 9000 st), (k27, eI (ty 0) 9001 wy), (k21, eI (ty 0) 1000 (fun _ => 0)), (h0, eO 9 [.ref k0, .ref k1, .ref k2, .ref k3, u4, .ref k5, u6, u7, u8, u9, u10, u11, u12, u13, u14, u15, u16, u17, u18, .ref k19, .ref k20, .ref k21, .ref k22, .ref k23, u24, .ref k25, .ref k26, .ref k27, u28, u29, .ref k30, .ref k31, u32, .ref k33, u34, u35, .ref k36, .ref k37, .ref k38, .ref k39]), (k25, eI (ty 0) 9000 e9_2)] H := hP
  have hD : va_D A [(k26, eI (ty 0) 9000 st), (k27, eI (ty 0) 9001 wy), (k21, eI (ty 0) 1000 (fun _ => 0)), (h0, eO 9 [.ref k0, .ref k1, .ref k2, .ref k3, u4, .ref k5, u6, u7, u8, u9, u10, u11, u12, u13, u14, u15, u16, u17, u18, .ref k19, .ref k20, .ref k21, .ref k22, .ref k23, u24, .ref k25, .ref k26, .ref k27, u28, u29, .ref k30, .ref k31, u32, .ref k33, u34, u35, .ref k36, .ref k37, .ref k38, .ref k39]), (k25, eI (ty 0) 9000 e9_2)] := hD
  refine lv_iload_n hx hb d_X9_endBy_10 rfl (lv_at hl 2 rfl) ?_
  have ct_11 : Cut [(k26, eI (ty 0) 9000 st), (k27, eI (ty 0) 9001 wy), (k21, eI (ty 0) 1000 (fun _ => 0)), (h0, eO 9 [.ref k0, .ref k1, .ref k2, .ref k3, u4, .ref k5, u6, u7, u8, u9, u10, u11, u12, u13, u14, u15, u16, u17, u18, .ref k19, .ref k20, .ref k21, .ref k22, .ref k23, u24, .ref k25, .ref k26, .ref k27, u28, u29, .ref k30, .ref k31, u32, .ref k33, u34, u35, .ref k36, .ref k37, .ref k38, .ref k39]), (k25, eI (ty 0) 9000 e9_2)] [(h0, eO 9 [.ref k0, .ref k1, .ref k2, .ref k3, u4, .ref k5, u6, u7, u8, u9, u10, u11, u12, u13, u14, u15, u16, u17, u18, .ref k19, .ref k20, .ref k21, .ref k22, .ref k23, u24, .ref k25, .ref k26, .ref k27, u28, u29, .ref k30, .ref k31, u32, .ref k33, u34, u35, .ref k36, .ref k37, .ref k38, .ref k39]), (k25, eI (ty 0) 9000 e9_2), (k26, eI (ty 0) 9000 st), (k27, eI (ty 0) 9001 wy), (k21, eI (ty 0) 1000 (fun _ => 0))] [] [3, 4, 0, 1, 2] [] := ⟨rfl, rfl, rfl, rfl, by decide⟩
  refine cont_V C hP hD hS ct_11 (run_V (As := [.int (nI (9 * b)), .int so]) (rest := []) C hP hD hS ct_11 (c_mlf l D ty h0 k0 k1 k2 k3 k5 k19 k20 k21 k22 k23 k25 k26 k27 k30 k31 k33 k36 k37 k38 k39 u4 u6 u7 u8 u9 u10 u11 u12 u13 u14 u15 u16 u17 u18 u24 u28 u29 u32 u34 u35 e9_2 st wy b so hbd (he9_6 _ (by omega))) kV_PinchedBillModel_400 3 rfl rfl rfl rfl hl.1 rfl (nle rfl) d_X9_endBy_11 ⟨by decide, by decide, by decide, by decide⟩) (fun w_17 H locs hw_15 hP hD hS => ?_)
  obtain ⟨e9_12, s9_13, y9_14, he9_18, heo_19, hs9_20, hso_21, rfl⟩ := hw_15
  have hP : va_P D vwCl [(h0, eO 9 [.ref k0, .ref k1, .ref k2, .ref k3, u4, .ref k5, u6, u7, u8, u9, u10, u11, u12, u13, u14, u15, u16, u17, u18, .ref k19, .ref k20, .ref k21, .ref k22, .ref k23, u24, .ref k25, .ref k26, .ref k27, u28, u29, .ref k30, .ref k31, u32, .ref k33, u34, u35, .ref k36, .ref k37, .ref k38, .ref k39]), (k25, eI (ty 0) 9000 e9_12), (k26, eI (ty 0) 9000 s9_13), (k27, eI (ty 0) 9001 y9_14), (k21, eI (ty 0) 1000 (fun _ => 0))] H := hP
  have hD : va_D A [(h0, eO 9 [.ref k0, .ref k1, .ref k2, .ref k3, u4, .ref k5, u6, u7, u8, u9, u10, u11, u12, u13, u14, u15, u16, u17, u18, .ref k19, .ref k20, .ref k21, .ref k22, .ref k23, u24, .ref k25, .ref k26, .ref k27, u28, u29, .ref k30, .ref k31, u32, .ref k33, u34, u35, .ref k36, .ref k37, .ref k38, .ref k39]), (k25, eI (ty 0) 9000 e9_12), (k26, eI (ty 0) 9000 s9_13), (k27, eI (ty 0) 9001 y9_14), (k21, eI (ty 0) 1000 (fun _ => 0))] := hD
  refine lv_aload_n hx hb d_X9_endBy_14 rfl (lv_at hl 0 rfl) ?_
  refine r_get (v := .ref k25) C hP 0 rfl rfl lay_X9 25 (by decide) k_1570 rfl d_X9_endBy_15 ?_
  refine lv_iload_n hx hb d_X9_endBy_18 rfl (lv_at hl 1 rfl) ?_
  refine lv_iconst (v := (-1)) hx hb d_X9_endBy_19 (by decide) ?_
  have ct_22 : Cut [(h0, eO 9 [.ref k0, .ref k1, .ref k2, .ref k3, u4, .ref k5, u6, u7, u8, u9, u10, u11, u12, u13, u14, u15, u16, u17, u18, .ref k19, .ref k20, .ref k21, .ref k22, .ref k23, u24, .ref k25, .ref k26, .ref k27, u28, u29, .ref k30, .ref k31, u32, .ref k33, u34, u35, .ref k36, .ref k37, .ref k38, .ref k39]), (k25, eI (ty 0) 9000 e9_12), (k26, eI (ty 0) 9000 s9_13), (k27, eI (ty 0) 9001 y9_14), (k21, eI (ty 0) 1000 (fun _ => 0))] [] [(h0, eO 9 [.ref k0, .ref k1, .ref k2, .ref k3, u4, .ref k5, u6, u7, u8, u9, u10, u11, u12, u13, u14, u15, u16, u17, u18, .ref k19, .ref k20, .ref k21, .ref k22, .ref k23, u24, .ref k25, .ref k26, .ref k27, u28, u29, .ref k30, .ref k31, u32, .ref k33, u34, u35, .ref k36, .ref k37, .ref k38, .ref k39]), (k25, eI (ty 0) 9000 e9_12), (k26, eI (ty 0) 9000 s9_13), (k27, eI (ty 0) 9001 y9_14), (k21, eI (ty 0) 1000 (fun _ => 0))] [] [0, 1, 2, 3, 4] := ⟨rfl, rfl, rfl, rfl, by decide⟩
  refine cont_I C hP hD hS ct_22 (run_S (As := [.int (nI b), .int (-1)]) (rest := [.ref k25]) C hP hD hS ct_22 (c_mst l D ty b hbd) kS_PinchedBillModel_391 rfl hl.1 rfl (nle rfl) d_X9_endBy_20 ⟨by decide, by decide, by decide, by decide⟩) (fun r_24 w_25 H locs hw_23 hP hD hS => ?_)
  obtain ⟨rfl, rfl⟩ := hw_23
  have hP : va_P D vwCl [(h0, eO 9 [.ref k0, .ref k1, .ref k2, .ref k3, u4, .ref k5, u6, u7, u8, u9, u10, u11, u12, u13, u14, u15, u16, u17, u18, .ref k19, .ref k20, .ref k21, .ref k22, .ref k23, u24, .ref k25, .ref k26, .ref k27, u28, u29, .ref k30, .ref k31, u32, .ref k33, u34, u35, .ref k36, .ref k37, .ref k38, .ref k39]), (k25, eI (ty 0) 9000 e9_12), (k26, eI (ty 0) 9000 s9_13), (k27, eI (ty 0) 9001 y9_14), (k21, eI (ty 0) 1000 (fun _ => 0))] H := hP
  have hD : va_D A [(h0, eO 9 [.ref k0, .ref k1, .ref k2, .ref k3, u4, .ref k5, u6, u7, u8, u9, u10, u11, u12, u13, u14, u15, u16, u17, u18, .ref k19, .ref k20, .ref k21, .ref k22, .ref k23, u24, .ref k25, .ref k26, .ref k27, u28, u29, .ref k30, .ref k31, u32, .ref k33, u34, u35, .ref k36, .ref k37, .ref k38, .ref k39]), (k25, eI (ty 0) 9000 e9_12), (k26, eI (ty 0) 9000 s9_13), (k27, eI (ty 0) 9001 y9_14), (k21, eI (ty 0) 1000 (fun _ => 0))] := hD
  refine r_iald (v := (nI b)) C hP 1 rfl (9 * b) rfl (by omega) (by decide) he9_18 d_X9_endBy_23 ?_
  exact ret_I (w := [(h0, eO 9 [.ref k0, .ref k1, .ref k2, .ref k3, u4, .ref k5, u6, u7, u8, u9, u10, u11, u12, u13, u14, u15, u16, u17, u18, .ref k19, .ref k20, .ref k21, .ref k22, .ref k23, u24, .ref k25, .ref k26, .ref k27, u28, u29, .ref k30, .ref k31, u32, .ref k33, u34, u35, .ref k36, .ref k37, .ref k38, .ref k39]), (k26, eI (ty 0) 9000 s9_13)]) C hP hD hS [0, 2] rfl rfl ⟨s9_13, hs9_20, rfl, rfl⟩ (by decide) (by decide) d_X9_endBy_24
set_option maxHeartbeats 4000000 in
set_option maxRecDepth 100000 in
theorem c_mendNow (l : Launch) (D : va_G) (ty : Nat → ClassId) (h0 : Nat) (k0 : Nat) (k1 : Nat) (k2 : Nat) (k3 : Nat) (k5 : Nat) (k19 : Nat) (k20 : Nat) (k21 : Nat) (k22 : Nat) (k23 : Nat) (k25 : Nat) (k26 : Nat) (k27 : Nat) (k30 : Nat) (k31 : Nat) (k33 : Nat) (k36 : Nat) (k37 : Nat) (k38 : Nat) (k39 : Nat) (u4 : Value) (u6 : Value) (u7 : Value) (u8 : Value) (u9 : Value) (u10 : Value) (u11 : Value) (u12 : Value) (u13 : Value) (u14 : Value) (u15 : Value) (u16 : Value) (u17 : Value) (u18 : Value) (u24 : Value) (u28 : Value) (u29 : Value) (u32 : Value) (u34 : Value) (u35 : Value) (kf : Nat → Int32) (en : Nat → Int32) (st : Nat → Int32) (wy : Nat → Int32) (b : Nat) (hkf : KF kf) (hbd : b < 1000) : CC l D ty ⟨"PinchedBillModel", "endNow", "(I)I"⟩ prog_11_method_84_code 2 (some .int) 4 99 0 0 [.ref h0, .int (nI b)] [(h0, eO 9 [.ref k0, .ref k1, .ref k2, .ref k3, u4, .ref k5, u6, u7, u8, u9, u10, u11, u12, u13, u14, u15, u16, u17, u18, .ref k19, .ref k20, .ref k21, .ref k22, .ref k23, u24, .ref k25, .ref k26, .ref k27, u28, u29, .ref k30, .ref k31, u32, .ref k33, u34, u35, .ref k36, .ref k37, .ref k38, .ref k39]), (k0, eI (ty 0) 1875 kf), (k21, eI (ty 0) 1000 (fun _ => 0)), (k25, eI (ty 0) 9000 en), (k26, eI (ty 0) 9000 st), (k27, eI (ty 0) 9001 wy)] (QI D ty (fun (r : Int32) (w : va_W) => ∃ (s9 : Nat → Int32), (s9 (9 * b) = 0) ∧ (nI b) = r ∧ w = [(h0, eO 9 [.ref k0, .ref k1, .ref k2, .ref k3, u4, .ref k5, u6, u7, u8, u9, u10, u11, u12, u13, u14, u15, u16, u17, u18, .ref k19, .ref k20, .ref k21, .ref k22, .ref k23, u24, .ref k25, .ref k26, .ref k27, u28, u29, .ref k30, .ref k31, u32, .ref k33, u34, u35, .ref k36, .ref k37, .ref k38, .ref k39]), (k0, eI (ty 0) 1875 kf), (k26, eI (ty 0) 9000 s9)])) := by
  refine CC_of (by decide) ?_
  intro p e s m below meth c A C hP hD hS
  obtain ⟨⟨hx, hb, hml, hown, hts⟩, hr, hlocks, hnm, hK, hE, hA, hZ⟩ := id C
  refine startW [.ref h0, .int (nI b)] 2 (nle rfl) (lv := [(0, .ref h0), (1, .int (nI b))]) rfl (fun ls hl => ?_)
  refine lv_aload_n hx hb d_X9_endNow_0 rfl (lv_at hl 0 rfl) ?_
  refine lv_iload_n hx hb d_X9_endNow_1 rfl (lv_at hl 1 rfl) ?_
  refine lv_aload_n hx hb d_X9_endNow_2 rfl (lv_at hl 0 rfl) ?_
  refine r_get (v := .ref k0) C hP 0 rfl rfl lay_X9 0 (by decide) k_1545 rfl d_X9_endNow_3 ?_
  refine lv_bipush (v := 8) hx hb d_X9_endNow_6 (by decide) ?_
  refine r_iald (v := 0) C hP 1 rfl 8 rfl (by decide) (by decide) hkf.2.2 d_X9_endNow_8 ?_
  have ct_1 : Cut [(h0, eO 9 [.ref k0, .ref k1, .ref k2, .ref k3, u4, .ref k5, u6, u7, u8, u9, u10, u11, u12, u13, u14, u15, u16, u17, u18, .ref k19, .ref k20, .ref k21, .ref k22, .ref k23, u24, .ref k25, .ref k26, .ref k27, u28, u29, .ref k30, .ref k31, u32, .ref k33, u34, u35, .ref k36, .ref k37, .ref k38, .ref k39]), (k0, eI (ty 0) 1875 kf), (k21, eI (ty 0) 1000 (fun _ => 0)), (k25, eI (ty 0) 9000 en), (k26, eI (ty 0) 9000 st), (k27, eI (ty 0) 9001 wy)] [(h0, eO 9 [.ref k0, .ref k1, .ref k2, .ref k3, u4, .ref k5, u6, u7, u8, u9, u10, u11, u12, u13, u14, u15, u16, u17, u18, .ref k19, .ref k20, .ref k21, .ref k22, .ref k23, u24, .ref k25, .ref k26, .ref k27, u28, u29, .ref k30, .ref k31, u32, .ref k33, u34, u35, .ref k36, .ref k37, .ref k38, .ref k39]), (k25, eI (ty 0) 9000 en), (k26, eI (ty 0) 9000 st), (k27, eI (ty 0) 9001 wy), (k21, eI (ty 0) 1000 (fun _ => 0))] [(k0, eI (ty 0) 1875 kf)] [0, 3, 4, 5, 2] [1] := ⟨rfl, rfl, rfl, rfl, by decide⟩
  refine cont_I C hP hD hS ct_1 (run_V (As := [.int (nI b), .int 0]) (rest := []) C hP hD hS ct_1 (c_mendBy l D ty h0 k0 k1 k2 k3 k5 k19 k20 k21 k22 k23 k25 k26 k27 k30 k31 k33 k36 k37 k38 k39 u4 u6 u7 u8 u9 u10 u11 u12 u13 u14 u15 u16 u17 u18 u24 u28 u29 u32 u34 u35 en st wy b 0 hbd) kV_PinchedBillModel_403 0 rfl rfl rfl rfl hl.1 rfl (nle rfl) d_X9_endNow_9 ⟨by decide, by decide, by decide, by decide⟩) (fun r_4 w_5 H locs hw_3 hP hD hS => ?_)
  obtain ⟨s9_2, hs9_6, rfl, rfl⟩ := hw_3
  have hP : va_P D vwCl [(k0, eI (ty 0) 1875 kf), (h0, eO 9 [.ref k0, .ref k1, .ref k2, .ref k3, u4, .ref k5, u6, u7, u8, u9, u10, u11, u12, u13, u14, u15, u16, u17, u18, .ref k19, .ref k20, .ref k21, .ref k22, .ref k23, u24, .ref k25, .ref k26, .ref k27, u28, u29, .ref k30, .ref k31, u32, .ref k33, u34, u35, .ref k36, .ref k37, .ref k38, .ref k39]), (k26, eI (ty 0) 9000 s9_2)] H := hP
  have hD : va_D A [(k0, eI (ty 0) 1875 kf), (h0, eO 9 [.ref k0, .ref k1, .ref k2, .ref k3, u4, .ref k5, u6, u7, u8, u9, u10, u11, u12, u13, u14, u15, u16, u17, u18, .ref k19, .ref k20, .ref k21, .ref k22, .ref k23, u24, .ref k25, .ref k26, .ref k27, u28, u29, .ref k30, .ref k31, u32, .ref k33, u34, u35, .ref k36, .ref k37, .ref k38, .ref k39]), (k26, eI (ty 0) 9000 s9_2)] := hD
  exact ret_I (w := [(h0, eO 9 [.ref k0, .ref k1, .ref k2, .ref k3, u4, .ref k5, u6, u7, u8, u9, u10, u11, u12, u13, u14, u15, u16, u17, u18, .ref k19, .ref k20, .ref k21, .ref k22, .ref k23, u24, .ref k25, .ref k26, .ref k27, u28, u29, .ref k30, .ref k31, u32, .ref k33, u34, u35, .ref k36, .ref k37, .ref k38, .ref k39]), (k0, eI (ty 0) 1875 kf), (k26, eI (ty 0) 9000 s9_2)]) C hP hD hS [1, 0, 2] rfl rfl ⟨s9_2, hs9_6, rfl, rfl⟩ (by decide) (by decide) d_X9_endNow_12
set_option maxHeartbeats 4000000 in
set_option maxRecDepth 100000 in
theorem c_mlaysAll (l : Launch) (D : va_G) (ty : Nat → ClassId) (h0 : Nat) (k0 : Nat) (k1 : Nat) (k2 : Nat) (k3 : Nat) (k5 : Nat) (k19 : Nat) (k20 : Nat) (k21 : Nat) (k22 : Nat) (k23 : Nat) (k25 : Nat) (k26 : Nat) (k27 : Nat) (k30 : Nat) (k31 : Nat) (k33 : Nat) (k36 : Nat) (k37 : Nat) (k38 : Nat) (k39 : Nat) (u4 : Value) (u6 : Value) (u7 : Value) (u8 : Value) (u9 : Value) (u10 : Value) (u11 : Value) (u12 : Value) (u13 : Value) (u14 : Value) (u15 : Value) (u16 : Value) (u17 : Value) (u18 : Value) (u24 : Value) (u28 : Value) (u29 : Value) (u32 : Value) (u34 : Value) (u35 : Value) (kf : Nat → Int32) (en : Nat → Int32) (st : Nat → Int32) (wy : Nat → Int32) (hkf : KF kf) : CC l D ty ⟨"PinchedBillModel", "laysAll", "()V"⟩ prog_11_method_85_code 2 none 3 77 0 0 [.ref h0] [(h0, eO 9 [.ref k0, .ref k1, .ref k2, .ref k3, u4, .ref k5, u6, u7, u8, u9, u10, u11, u12, u13, u14, u15, u16, u17, u18, .ref k19, .ref k20, .ref k21, .ref k22, .ref k23, u24, .ref k25, .ref k26, .ref k27, u28, u29, .ref k30, .ref k31, u32, .ref k33, u34, u35, .ref k36, .ref k37, .ref k38, .ref k39]), (k0, eI (ty 0) 1875 kf), (k21, eI (ty 0) 1000 (fun _ => 0)), (k25, eI (ty 0) 9000 en), (k26, eI (ty 0) 9000 st), (k27, eI (ty 0) 9001 wy)] (QV D ty (fun (w : va_W) => ∃ (e9 : Nat → Int32) (s9 : Nat → Int32), (∀ j, j < 10 → e9 (9 * (100 * j)) = nI (100 * j)) ∧ (∀ j, j < 10 → s9 (9 * (100 * j)) = 0) ∧ w = [(h0, eO 9 [.ref k0, .ref k1, .ref k2, .ref k3, u4, .ref k5, u6, u7, u8, u9, u10, u11, u12, u13, u14, u15, u16, u17, u18, .ref k19, .ref k20, .ref k21, .ref k22, .ref k23, u24, .ref k25, .ref k26, .ref k27, u28, u29, .ref k30, .ref k31, u32, .ref k33, u34, u35, .ref k36, .ref k37, .ref k38, .ref k39]), (k0, eI (ty 0) 1875 kf), (k25, eI (ty 0) 9000 e9), (k26, eI (ty 0) 9000 s9)])) := by
  refine CC_of (by decide) ?_
  intro p e s m below meth c A C hP hD hS
  obtain ⟨⟨hx, hb, hml, hown, hts⟩, hr, hlocks, hnm, hK, hE, hA, hZ⟩ := id C
  refine startW [.ref h0] 2 (nle rfl) (lv := [(0, .ref h0)]) rfl (fun ls hl => ?_)
  refine lv_aload_n hx hb d_X9_laysAll_0 rfl (lv_at hl 0 rfl) ?_
  have ct_1 : Cut [(h0, eO 9 [.ref k0, .ref k1, .ref k2, .ref k3, u4, .ref k5, u6, u7, u8, u9, u10, u11, u12, u13, u14, u15, u16, u17, u18, .ref k19, .ref k20, .ref k21, .ref k22, .ref k23, u24, .ref k25, .ref k26, .ref k27, u28, u29, .ref k30, .ref k31, u32, .ref k33, u34, u35, .ref k36, .ref k37, .ref k38, .ref k39]), (k0, eI (ty 0) 1875 kf), (k21, eI (ty 0) 1000 (fun _ => 0)), (k25, eI (ty 0) 9000 en), (k26, eI (ty 0) 9000 st), (k27, eI (ty 0) 9001 wy)] [(h0, eO 9 [.ref k0, .ref k1, .ref k2, .ref k3, u4, .ref k5, u6, u7, u8, u9, u10, u11, u12, u13, u14, u15, u16, u17, u18, .ref k19, .ref k20, .ref k21, .ref k22, .ref k23, u24, .ref k25, .ref k26, .ref k27, u28, u29, .ref k30, .ref k31, u32, .ref k33, u34, u35, .ref k36, .ref k37, .ref k38, .ref k39]), (k25, eI (ty 0) 9000 en)] [(k0, eI (ty 0) 1875 kf), (k21, eI (ty 0) 1000 (fun _ => 0)), (k26, eI (ty 0) 9000 st), (k27, eI (ty 0) 9001 wy)] [0, 3] [1, 2, 4, 5] := ⟨rfl, rfl, rfl, rfl, by decide⟩
  refine cont_V C hP hD hS ct_1 (run_V (As := []) (rest := []) C hP hD hS ct_1 (c_mforg l D ty h0 k0 k1 k2 k3 k5 k19 k20 k21 k22 k23 k25 k26 k27 k30 k31 k33 k36 k37 k38 k39 u4 u6 u7 u8 u9 u10 u11 u12 u13 u14 u15 u16 u17 u18 u24 u28 u29 u32 u34 u35 en) kV_PinchedBillModel_397 0 rfl rfl rfl rfl hl.1 rfl (nle rfl) d_X9_laysAll_1 ⟨by decide, by decide, by decide, by decide⟩) (fun w_5 H locs hw_3 hP hD hS => ?_)
  obtain ⟨e9_2, he9_6, rfl⟩ := hw_3
  have hP : va_P D vwCl [(k0, eI (ty 0) 1875 kf), (k21, eI (ty 0) 1000 (fun _ => 0)), (k26, eI (ty 0) 9000 st), (k27, eI (ty 0) 9001 wy), (h0, eO 9 [.ref k0, .ref k1, .ref k2, .ref k3, u4, .ref k5, u6, u7, u8, u9, u10, u11, u12, u13, u14, u15, u16, u17, u18, .ref k19, .ref k20, .ref k21, .ref k22, .ref k23, u24, .ref k25, .ref k26, .ref k27, u28, u29, .ref k30, .ref k31, u32, .ref k33, u34, u35, .ref k36, .ref k37, .ref k38, .ref k39]), (k25, eI (ty 0) 9000 e9_2)] H := hP
  have hD : va_D A [(k0, eI (ty 0) 1875 kf), (k21, eI (ty 0) 1000 (fun _ => 0)), (k26, eI (ty 0) 9000 st), (k27, eI (ty 0) 9001 wy), (h0, eO 9 [.ref k0, .ref k1, .ref k2, .ref k3, u4, .ref k5, u6, u7, u8, u9, u10, u11, u12, u13, u14, u15, u16, u17, u18, .ref k19, .ref k20, .ref k21, .ref k22, .ref k23, u24, .ref k25, .ref k26, .ref k27, u28, u29, .ref k30, .ref k31, u32, .ref k33, u34, u35, .ref k36, .ref k37, .ref k38, .ref k39]), (k25, eI (ty 0) 9000 e9_2)] := hD
  refine lv_iconst (v := 0) hx hb d_X9_laysAll_4 (by decide) ?_
  refine lv_istore_n (lv' := [(1, .int 0), (0, .ref h0)]) hx hb d_X9_laysAll_5 rfl hl (by decide) rfl (fun ls hl => ?_)
  refine loopW4 (fun (i : Nat) (g : Nat → Int32) (s2 : Nat → Int32) (y2 : Nat → Int32) (H : Heap) (locs : List Loc) (ls : Array Slot) => (i ≤ 10) ∧ (∀ j, j < i → g (9 * (100 * j)) = nI (100 * j)) ∧ (∀ j, i ≤ j → j < 10 → g (9 * (100 * j)) = (-2)) ∧ (∀ j, j < i → s2 (9 * (100 * j)) = 0) ∧ va_P D vwCl [(k0, eI (ty 0) 1875 kf), (k21, eI (ty 0) 1000 (fun _ => 0)), (k26, eI (ty 0) 9000 s2), (k27, eI (ty 0) 9001 y2), (h0, eO 9 [.ref k0, .ref k1, .ref k2, .ref k3, u4, .ref k5, u6, u7, u8, u9, u10, u11, u12, u13, u14, u15, u16, u17, u18, .ref k19, .ref k20, .ref k21, .ref k22, .ref k23, u24, .ref k25, .ref k26, .ref k27, u28, u29, .ref k30, .ref k31, u32, .ref k33, u34, u35, .ref k36, .ref k37, .ref k38, .ref k39]), (k25, eI (ty 0) 9000 g)] H ∧ va_D A [(k0, eI (ty 0) 1875 kf), (k21, eI (ty 0) 1000 (fun _ => 0)), (k26, eI (ty 0) 9000 s2), (k27, eI (ty 0) 9001 y2), (h0, eO 9 [.ref k0, .ref k1, .ref k2, .ref k3, u4, .ref k5, u6, u7, u8, u9, u10, u11, u12, u13, u14, u15, u16, u17, u18, .ref k19, .ref k20, .ref k21, .ref k22, .ref k23, u24, .ref k25, .ref k26, .ref k27, u28, u29, .ref k30, .ref k31, u32, .ref k33, u34, u35, .ref k36, .ref k37, .ref k38, .ref k39]), (k25, eI (ty 0) 9000 g)] ∧ va_S A s.heap H locs ∧ lv_has ls 2 [(1, .int (nI (100 * i))), (0, .ref h0)]) (fun (i : Nat) (g : Nat → Int32) (s2 : Nat → Int32) (y2 : Nat → Int32) => 10 - i) ?_ 0 e9_2 st wy ⟨(by omega), (fun j h => absurd h (by omega)), (fun j _ _ => he9_6 _ (by omega)), (fun j h => absurd h (by omega)), hP, hD, hS, lv_sub hl [0, 1] rfl⟩
  intro i g s2 y2 H locs ls hI ih_7
  obtain ⟨hi, hga, hgb, hsa, hP, hD, hS, hl⟩ := hI
  refine lv_iload_n hx hb d_X9_laysAll_6 rfl (lv_at hl 0 rfl) ?_
  refine lv_sipush (v := 1000) hx hb d_X9_laysAll_7 (by decide) ?_
  refine lv_icmp_ge (tgt := 39) hx hb d_X9_laysAll_10 (by decide) (fun hc_8 => ?_) (fun hc_8 => ?_)
  · have hc_8 := un_le 1000 (100 * i) rfl rfl (by omega) (by omega) hc_8
    obtain rfl : i = 10 := by omega
    exact ret_V (w := [(h0, eO 9 [.ref k0, .ref k1, .ref k2, .ref k3, u4, .ref k5, u6, u7, u8, u9, u10, u11, u12, u13, u14, u15, u16, u17, u18, .ref k19, .ref k20, .ref k21, .ref k22, .ref k23, u24, .ref k25, .ref k26, .ref k27, u28, u29, .ref k30, .ref k31, u32, .ref k33, u34, u35, .ref k36, .ref k37, .ref k38, .ref k39]), (k0, eI (ty 0) 1875 kf), (k25, eI (ty 0) 9000 g), (k26, eI (ty 0) 9000 s2)]) C hP hD hS [4, 0, 5, 2] rfl rfl ⟨g, s2, hga, hsa, rfl⟩ (by decide) (by decide) d_X9_laysAll_39
  · have hc_8 := un_nle 1000 (100 * i) rfl rfl (by omega) (by omega) hc_8
    refine lv_aload_n hx hb d_X9_laysAll_13 rfl (lv_at hl 1 rfl) ?_
    refine lv_iload_n hx hb d_X9_laysAll_14 rfl (lv_at hl 0 rfl) ?_
    refine lv_iconst (v := (-1)) hx hb d_X9_laysAll_15 (by decide) ?_
    have ct_9 : Cut [(k0, eI (ty 0) 1875 kf), (k21, eI (ty 0) 1000 (fun _ => 0)), (k26, eI (ty 0) 9000 s2), (k27, eI (ty 0) 9001 y2), (h0, eO 9 [.ref k0, .ref k1, .ref k2, .ref k3, u4, .ref k5, u6, u7, u8, u9, u10, u11, u12, u13, u14, u15, u16, u17, u18, .ref k19, .ref k20, .ref k21, .ref k22, .ref k23, u24, .ref k25, .ref k26, .ref k27, u28, u29, .ref k30, .ref k31, u32, .ref k33, u34, u35, .ref k36, .ref k37, .ref k38, .ref k39]), (k25, eI (ty 0) 9000 g)] [] [(k0, eI (ty 0) 1875 kf), (k21, eI (ty 0) 1000 (fun _ => 0)), (k26, eI (ty 0) 9000 s2), (k27, eI (ty 0) 9001 y2), (h0, eO 9 [.ref k0, .ref k1, .ref k2, .ref k3, u4, .ref k5, u6, u7, u8, u9, u10, u11, u12, u13, u14, u15, u16, u17, u18, .ref k19, .ref k20, .ref k21, .ref k22, .ref k23, u24, .ref k25, .ref k26, .ref k27, u28, u29, .ref k30, .ref k31, u32, .ref k33, u34, u35, .ref k36, .ref k37, .ref k38, .ref k39]), (k25, eI (ty 0) 9000 g)] [] [0, 1, 2, 3, 4, 5] := ⟨rfl, rfl, rfl, rfl, by decide⟩
    refine cont_I C hP hD hS ct_9 (run_S (As := [.int (nI (100 * i)), .int (-1)]) (rest := [.ref h0]) C hP hD hS ct_9 (c_mst l D ty (100 * i) hc_8) kS_PinchedBillModel_391 rfl hl.1 rfl (nle rfl) d_X9_laysAll_16 ⟨by decide, by decide, by decide, by decide⟩) (fun r_11 w_12 H locs hw_10 hP hD hS => ?_)
    obtain ⟨rfl, rfl⟩ := hw_10
    have hP : va_P D vwCl [(k0, eI (ty 0) 1875 kf), (k21, eI (ty 0) 1000 (fun _ => 0)), (k26, eI (ty 0) 9000 s2), (k27, eI (ty 0) 9001 y2), (h0, eO 9 [.ref k0, .ref k1, .ref k2, .ref k3, u4, .ref k5, u6, u7, u8, u9, u10, u11, u12, u13, u14, u15, u16, u17, u18, .ref k19, .ref k20, .ref k21, .ref k22, .ref k23, u24, .ref k25, .ref k26, .ref k27, u28, u29, .ref k30, .ref k31, u32, .ref k33, u34, u35, .ref k36, .ref k37, .ref k38, .ref k39]), (k25, eI (ty 0) 9000 g)] H := hP
    have hD : va_D A [(k0, eI (ty 0) 1875 kf), (k21, eI (ty 0) 1000 (fun _ => 0)), (k26, eI (ty 0) 9000 s2), (k27, eI (ty 0) 9001 y2), (h0, eO 9 [.ref k0, .ref k1, .ref k2, .ref k3, u4, .ref k5, u6, u7, u8, u9, u10, u11, u12, u13, u14, u15, u16, u17, u18, .ref k19, .ref k20, .ref k21, .ref k22, .ref k23, u24, .ref k25, .ref k26, .ref k27, u28, u29, .ref k30, .ref k31, u32, .ref k33, u34, u35, .ref k36, .ref k37, .ref k38, .ref k39]), (k25, eI (ty 0) 9000 g)] := hD
    refine lv_aload_n hx hb d_X9_laysAll_19 rfl (lv_at hl 1 rfl) ?_
    refine r_get (v := .ref k0) C hP 4 rfl rfl lay_X9 0 (by decide) k_1545 rfl d_X9_laysAll_20 ?_
    refine lv_bipush (v := 8) hx hb d_X9_laysAll_23 (by decide) ?_
    refine r_iald (v := 0) C hP 0 rfl 8 rfl (by decide) (by decide) hkf.2.2 d_X9_laysAll_25 ?_
    have ct_13 : Cut [(k0, eI (ty 0) 1875 kf), (k21, eI (ty 0) 1000 (fun _ => 0)), (k26, eI (ty 0) 9000 s2), (k27, eI (ty 0) 9001 y2), (h0, eO 9 [.ref k0, .ref k1, .ref k2, .ref k3, u4, .ref k5, u6, u7, u8, u9, u10, u11, u12, u13, u14, u15, u16, u17, u18, .ref k19, .ref k20, .ref k21, .ref k22, .ref k23, u24, .ref k25, .ref k26, .ref k27, u28, u29, .ref k30, .ref k31, u32, .ref k33, u34, u35, .ref k36, .ref k37, .ref k38, .ref k39]), (k25, eI (ty 0) 9000 g)] [(h0, eO 9 [.ref k0, .ref k1, .ref k2, .ref k3, u4, .ref k5, u6, u7, u8, u9, u10, u11, u12, u13, u14, u15, u16, u17, u18, .ref k19, .ref k20, .ref k21, .ref k22, .ref k23, u24, .ref k25, .ref k26, .ref k27, u28, u29, .ref k30, .ref k31, u32, .ref k33, u34, u35, .ref k36, .ref k37, .ref k38, .ref k39]), (k25, eI (ty 0) 9000 g), (k26, eI (ty 0) 9000 s2), (k27, eI (ty 0) 9001 y2), (k21, eI (ty 0) 1000 (fun _ => 0))] [(k0, eI (ty 0) 1875 kf)] [4, 5, 2, 3, 1] [0] := ⟨rfl, rfl, rfl, rfl, by decide⟩
    refine cont_V C hP hD hS ct_13 (run_V (As := [.int (nI (9 * (100 * i))), .int 0]) (rest := []) C hP hD hS ct_13 (c_mlf l D ty h0 k0 k1 k2 k3 k5 k19 k20 k21 k22 k23 k25 k26 k27 k30 k31 k33 k36 k37 k38 k39 u4 u6 u7 u8 u9 u10 u11 u12 u13 u14 u15 u16 u17 u18 u24 u28 u29 u32 u34 u35 g s2 y2 (100 * i) 0 hc_8 (hgb i (Nat.le_refl _) (by omega))) kV_PinchedBillModel_400 4 rfl rfl rfl rfl hl.1 rfl (nle rfl) d_X9_laysAll_26 ⟨by decide, by decide, by decide, by decide⟩) (fun w_19 H locs hw_17 hP hD hS => ?_)
    obtain ⟨e9_14, s9_15, y9_16, he9_20, heo_21, hs9_22, hso_23, rfl⟩ := hw_17
    have hP : va_P D vwCl [(k0, eI (ty 0) 1875 kf), (h0, eO 9 [.ref k0, .ref k1, .ref k2, .ref k3, u4, .ref k5, u6, u7, u8, u9, u10, u11, u12, u13, u14, u15, u16, u17, u18, .ref k19, .ref k20, .ref k21, .ref k22, .ref k23, u24, .ref k25, .ref k26, .ref k27, u28, u29, .ref k30, .ref k31, u32, .ref k33, u34, u35, .ref k36, .ref k37, .ref k38, .ref k39]), (k25, eI (ty 0) 9000 e9_14), (k26, eI (ty 0) 9000 s9_15), (k27, eI (ty 0) 9001 y9_16), (k21, eI (ty 0) 1000 (fun _ => 0))] H := hP
    have hD : va_D A [(k0, eI (ty 0) 1875 kf), (h0, eO 9 [.ref k0, .ref k1, .ref k2, .ref k3, u4, .ref k5, u6, u7, u8, u9, u10, u11, u12, u13, u14, u15, u16, u17, u18, .ref k19, .ref k20, .ref k21, .ref k22, .ref k23, u24, .ref k25, .ref k26, .ref k27, u28, u29, .ref k30, .ref k31, u32, .ref k33, u34, u35, .ref k36, .ref k37, .ref k38, .ref k39]), (k25, eI (ty 0) 9000 e9_14), (k26, eI (ty 0) 9000 s9_15), (k27, eI (ty 0) 9001 y9_16), (k21, eI (ty 0) 1000 (fun _ => 0))] := hD
    refine lv_iload_n hx hb d_X9_laysAll_29 rfl (lv_at hl 0 rfl) ?_
    refine lv_aload_n hx hb d_X9_laysAll_30 rfl (lv_at hl 1 rfl) ?_
    have ct_24 : Cut [(k0, eI (ty 0) 1875 kf), (h0, eO 9 [.ref k0, .ref k1, .ref k2, .ref k3, u4, .ref k5, u6, u7, u8, u9, u10, u11, u12, u13, u14, u15, u16, u17, u18, .ref k19, .ref k20, .ref k21, .ref k22, .ref k23, u24, .ref k25, .ref k26, .ref k27, u28, u29, .ref k30, .ref k31, u32, .ref k33, u34, u35, .ref k36, .ref k37, .ref k38, .ref k39]), (k25, eI (ty 0) 9000 e9_14), (k26, eI (ty 0) 9000 s9_15), (k27, eI (ty 0) 9001 y9_16), (k21, eI (ty 0) 1000 (fun _ => 0))] [(h0, eO 9 [.ref k0, .ref k1, .ref k2, .ref k3, u4, .ref k5, u6, u7, u8, u9, u10, u11, u12, u13, u14, u15, u16, u17, u18, .ref k19, .ref k20, .ref k21, .ref k22, .ref k23, u24, .ref k25, .ref k26, .ref k27, u28, u29, .ref k30, .ref k31, u32, .ref k33, u34, u35, .ref k36, .ref k37, .ref k38, .ref k39]), (k0, eI (ty 0) 1875 kf)] [(k25, eI (ty 0) 9000 e9_14), (k26, eI (ty 0) 9000 s9_15), (k27, eI (ty 0) 9001 y9_16), (k21, eI (ty 0) 1000 (fun _ => 0))] [1, 0] [2, 3, 4, 5] := ⟨rfl, rfl, rfl, rfl, by decide⟩
    refine cont_I C hP hD hS ct_24 (run_V (As := []) (rest := [.int (nI (100 * i))]) C hP hD hS ct_24 (c_mfine l D ty h0 k0 k1 k2 k3 k5 k19 k20 k21 k22 k23 k25 k26 k27 k30 k31 k33 k36 k37 k38 k39 u4 u6 u7 u8 u9 u10 u11 u12 u13 u14 u15 u16 u17 u18 u24 u28 u29 u32 u34 u35 kf hkf) kV_PinchedBillModel_264 1 rfl rfl rfl rfl hl.1 rfl (nle rfl) d_X9_laysAll_31 ⟨by decide, by decide, by decide, by decide⟩) (fun r_26 w_27 H locs hw_25 hP hD hS => ?_)
    obtain ⟨rfl, rfl⟩ := hw_25
    have hP : va_P D vwCl [(k25, eI (ty 0) 9000 e9_14), (k26, eI (ty 0) 9000 s9_15), (k27, eI (ty 0) 9001 y9_16), (k21, eI (ty 0) 1000 (fun _ => 0)), (h0, eO 9 [.ref k0, .ref k1, .ref k2, .ref k3, u4, .ref k5, u6, u7, u8, u9, u10, u11, u12, u13, u14, u15, u16, u17, u18, .ref k19, .ref k20, .ref k21, .ref k22, .ref k23, u24, .ref k25, .ref k26, .ref k27, u28, u29, .ref k30, .ref k31, u32, .ref k33, u34, u35, .ref k36, .ref k37, .ref k38, .ref k39]), (k0, eI (ty 0) 1875 kf)] H := hP
    have hD : va_D A [(k25, eI (ty 0) 9000 e9_14), (k26, eI (ty 0) 9000 s9_15), (k27, eI (ty 0) 9001 y9_16), (k21, eI (ty 0) 1000 (fun _ => 0)), (h0, eO 9 [.ref k0, .ref k1, .ref k2, .ref k3, u4, .ref k5, u6, u7, u8, u9, u10, u11, u12, u13, u14, u15, u16, u17, u18, .ref k19, .ref k20, .ref k21, .ref k22, .ref k23, u24, .ref k25, .ref k26, .ref k27, u28, u29, .ref k30, .ref k31, u32, .ref k33, u34, u35, .ref k36, .ref k37, .ref k38, .ref k39]), (k0, eI (ty 0) 1875 kf)] := hD
    refine r_iadd (z := (nI ((100 * i) + 100))) C d_X9_laysAll_34 (a_add (100 * i) 100 ((100 * i) + 100) rfl rfl (by omega)) ?_
    refine lv_istore_n (lv' := [(1, .int (nI ((100 * i) + 100))), (0, .ref h0)]) hx hb d_X9_laysAll_35 rfl hl (by decide) rfl (fun ls hl => ?_)
    refine lv_goto (tgt := 6) hx hb d_X9_laysAll_36 (by decide) ?_
    exact ih_7 (i + 1) e9_14 s9_15 y9_16 _ _ _ (by omega) ⟨(by omega), (all_n hga he9_20 heo_21), (fun j h1 h2 => by rw [heo_21 _ (by omega)]; exact hgb j (by omega) h2), (all_n hsa hs9_22 hso_23), sub_P hP (is := [5, 3, 1, 2, 4, 0]) rfl, hD.sub [5, 3, 1, 2, 4, 0] (by decide) rfl, hS, lv_sub hl [0, 1] rfl⟩
set_option maxHeartbeats 4000000 in
set_option maxRecDepth 100000 in
theorem c_mendAt (l : Launch) (D : va_G) (ty : Nat → ClassId) (h0 : Nat) (k0 : Nat) (k1 : Nat) (k2 : Nat) (k3 : Nat) (k5 : Nat) (k19 : Nat) (k20 : Nat) (k21 : Nat) (k22 : Nat) (k23 : Nat) (k25 : Nat) (k26 : Nat) (k27 : Nat) (k30 : Nat) (k31 : Nat) (k33 : Nat) (k36 : Nat) (k37 : Nat) (k38 : Nat) (k39 : Nat) (u4 : Value) (u6 : Value) (u7 : Value) (u8 : Value) (u9 : Value) (u10 : Value) (u11 : Value) (u12 : Value) (u13 : Value) (u14 : Value) (u15 : Value) (u16 : Value) (u17 : Value) (u18 : Value) (u24 : Value) (u28 : Value) (u29 : Value) (u32 : Value) (u34 : Value) (u35 : Value) (en : Nat → Int32) (i : Nat) (hi : i < 10) (hga : ∀ j, j < 10 → en (9 * (100 * j)) = nI (100 * j)) : CC l D ty ⟨"PinchedBillModel", "endAt", "(I)I"⟩ prog_11_method_86_code 2 (some .int) 1 21 0 0 [.ref h0, .int (nI (100 * i))] [(h0, eO 9 [.ref k0, .ref k1, .ref k2, .ref k3, u4, .ref k5, u6, u7, u8, u9, u10, u11, u12, u13, u14, u15, u16, u17, u18, .ref k19, .ref k20, .ref k21, .ref k22, .ref k23, u24, .ref k25, .ref k26, .ref k27, u28, u29, .ref k30, .ref k31, u32, .ref k33, u34, u35, .ref k36, .ref k37, .ref k38, .ref k39]), (k25, eI (ty 0) 9000 en)] (QI D ty (fun (r : Int32) (w : va_W) => (nI (100 * i)) = r ∧ w = [(h0, eO 9 [.ref k0, .ref k1, .ref k2, .ref k3, u4, .ref k5, u6, u7, u8, u9, u10, u11, u12, u13, u14, u15, u16, u17, u18, .ref k19, .ref k20, .ref k21, .ref k22, .ref k23, u24, .ref k25, .ref k26, .ref k27, u28, u29, .ref k30, .ref k31, u32, .ref k33, u34, u35, .ref k36, .ref k37, .ref k38, .ref k39]), (k25, eI (ty 0) 9000 en)])) := by
  refine CC_of (by decide) ?_
  intro p e s m below meth c A C hP hD hS
  obtain ⟨⟨hx, hb, hml, hown, hts⟩, hr, hlocks, hnm, hK, hE, hA, hZ⟩ := id C
  refine startW [.ref h0, .int (nI (100 * i))] 2 (nle rfl) (lv := [(0, .ref h0), (1, .int (nI (100 * i)))]) rfl (fun ls hl => ?_)
  refine lv_aload_n hx hb d_X9_endAt_0 rfl (lv_at hl 0 rfl) ?_
  refine r_get (v := .ref k25) C hP 0 rfl rfl lay_X9 25 (by decide) k_1570 rfl d_X9_endAt_1 ?_
  refine lv_iload_n hx hb d_X9_endAt_4 rfl (lv_at hl 1 rfl) ?_
  refine lv_iconst (v := (-1)) hx hb d_X9_endAt_5 (by decide) ?_
  have ct_1 : Cut [(h0, eO 9 [.ref k0, .ref k1, .ref k2, .ref k3, u4, .ref k5, u6, u7, u8, u9, u10, u11, u12, u13, u14, u15, u16, u17, u18, .ref k19, .ref k20, .ref k21, .ref k22, .ref k23, u24, .ref k25, .ref k26, .ref k27, u28, u29, .ref k30, .ref k31, u32, .ref k33, u34, u35, .ref k36, .ref k37, .ref k38, .ref k39]), (k25, eI (ty 0) 9000 en)] [] [(h0, eO 9 [.ref k0, .ref k1, .ref k2, .ref k3, u4, .ref k5, u6, u7, u8, u9, u10, u11, u12, u13, u14, u15, u16, u17, u18, .ref k19, .ref k20, .ref k21, .ref k22, .ref k23, u24, .ref k25, .ref k26, .ref k27, u28, u29, .ref k30, .ref k31, u32, .ref k33, u34, u35, .ref k36, .ref k37, .ref k38, .ref k39]), (k25, eI (ty 0) 9000 en)] [] [0, 1] := ⟨rfl, rfl, rfl, rfl, by decide⟩
  refine cont_I C hP hD hS ct_1 (run_S (As := [.int (nI (100 * i)), .int (-1)]) (rest := [.ref k25]) C hP hD hS ct_1 (c_mst l D ty (100 * i) (by omega)) kS_PinchedBillModel_391 rfl hl.1 rfl (nle rfl) d_X9_endAt_6 ⟨by decide, by decide, by decide, by decide⟩) (fun r_3 w_4 H locs hw_2 hP hD hS => ?_)
  obtain ⟨rfl, rfl⟩ := hw_2
  have hP : va_P D vwCl [(h0, eO 9 [.ref k0, .ref k1, .ref k2, .ref k3, u4, .ref k5, u6, u7, u8, u9, u10, u11, u12, u13, u14, u15, u16, u17, u18, .ref k19, .ref k20, .ref k21, .ref k22, .ref k23, u24, .ref k25, .ref k26, .ref k27, u28, u29, .ref k30, .ref k31, u32, .ref k33, u34, u35, .ref k36, .ref k37, .ref k38, .ref k39]), (k25, eI (ty 0) 9000 en)] H := hP
  have hD : va_D A [(h0, eO 9 [.ref k0, .ref k1, .ref k2, .ref k3, u4, .ref k5, u6, u7, u8, u9, u10, u11, u12, u13, u14, u15, u16, u17, u18, .ref k19, .ref k20, .ref k21, .ref k22, .ref k23, u24, .ref k25, .ref k26, .ref k27, u28, u29, .ref k30, .ref k31, u32, .ref k33, u34, u35, .ref k36, .ref k37, .ref k38, .ref k39]), (k25, eI (ty 0) 9000 en)] := hD
  refine r_iald (v := (nI (100 * i))) C hP 1 rfl (9 * (100 * i)) rfl (by omega) (by decide) (hga i (by omega)) d_X9_endAt_9 ?_
  exact ret_I (w := [(h0, eO 9 [.ref k0, .ref k1, .ref k2, .ref k3, u4, .ref k5, u6, u7, u8, u9, u10, u11, u12, u13, u14, u15, u16, u17, u18, .ref k19, .ref k20, .ref k21, .ref k22, .ref k23, u24, .ref k25, .ref k26, .ref k27, u28, u29, .ref k30, .ref k31, u32, .ref k33, u34, u35, .ref k36, .ref k37, .ref k38, .ref k39]), (k25, eI (ty 0) 9000 en)]) C hP hD hS [0, 1] rfl rfl ⟨rfl, rfl⟩ (by decide) (by decide) d_X9_endAt_10
set_option maxHeartbeats 4000000 in
set_option maxRecDepth 100000 in
theorem c_mendAt0 (l : Launch) (D : va_G) (ty : Nat → ClassId) (h0 : Nat) (k0 : Nat) (k1 : Nat) (k2 : Nat) (k3 : Nat) (k5 : Nat) (k19 : Nat) (k20 : Nat) (k21 : Nat) (k22 : Nat) (k23 : Nat) (k25 : Nat) (k26 : Nat) (k27 : Nat) (k30 : Nat) (k31 : Nat) (k33 : Nat) (k36 : Nat) (k37 : Nat) (k38 : Nat) (k39 : Nat) (u4 : Value) (u6 : Value) (u7 : Value) (u8 : Value) (u9 : Value) (u10 : Value) (u11 : Value) (u12 : Value) (u13 : Value) (u14 : Value) (u15 : Value) (u16 : Value) (u17 : Value) (u18 : Value) (u24 : Value) (u28 : Value) (u29 : Value) (u32 : Value) (u34 : Value) (u35 : Value) (en : Nat → Int32) (hga : ∀ j, j < 10 → en (9 * (100 * j)) = nI (100 * j)) : CC l D ty ⟨"PinchedBillModel", "endAt", "(I)I"⟩ prog_11_method_86_code 2 (some .int) 1 21 0 0 [.ref h0, .int 0] [(h0, eO 9 [.ref k0, .ref k1, .ref k2, .ref k3, u4, .ref k5, u6, u7, u8, u9, u10, u11, u12, u13, u14, u15, u16, u17, u18, .ref k19, .ref k20, .ref k21, .ref k22, .ref k23, u24, .ref k25, .ref k26, .ref k27, u28, u29, .ref k30, .ref k31, u32, .ref k33, u34, u35, .ref k36, .ref k37, .ref k38, .ref k39]), (k25, eI (ty 0) 9000 en)] (QI D ty (fun (r : Int32) (w : va_W) => 0 = r ∧ w = [(h0, eO 9 [.ref k0, .ref k1, .ref k2, .ref k3, u4, .ref k5, u6, u7, u8, u9, u10, u11, u12, u13, u14, u15, u16, u17, u18, .ref k19, .ref k20, .ref k21, .ref k22, .ref k23, u24, .ref k25, .ref k26, .ref k27, u28, u29, .ref k30, .ref k31, u32, .ref k33, u34, u35, .ref k36, .ref k37, .ref k38, .ref k39]), (k25, eI (ty 0) 9000 en)])) := by
  refine CC_of (by decide) ?_
  intro p e s m below meth c A C hP hD hS
  obtain ⟨⟨hx, hb, hml, hown, hts⟩, hr, hlocks, hnm, hK, hE, hA, hZ⟩ := id C
  refine startW [.ref h0, .int 0] 2 (nle rfl) (lv := [(0, .ref h0), (1, .int 0)]) rfl (fun ls hl => ?_)
  refine lv_aload_n hx hb d_X9_endAt_0 rfl (lv_at hl 0 rfl) ?_
  refine r_get (v := .ref k25) C hP 0 rfl rfl lay_X9 25 (by decide) k_1570 rfl d_X9_endAt_1 ?_
  refine lv_iload_n hx hb d_X9_endAt_4 rfl (lv_at hl 1 rfl) ?_
  refine lv_iconst (v := (-1)) hx hb d_X9_endAt_5 (by decide) ?_
  have ct_1 : Cut [(h0, eO 9 [.ref k0, .ref k1, .ref k2, .ref k3, u4, .ref k5, u6, u7, u8, u9, u10, u11, u12, u13, u14, u15, u16, u17, u18, .ref k19, .ref k20, .ref k21, .ref k22, .ref k23, u24, .ref k25, .ref k26, .ref k27, u28, u29, .ref k30, .ref k31, u32, .ref k33, u34, u35, .ref k36, .ref k37, .ref k38, .ref k39]), (k25, eI (ty 0) 9000 en)] [] [(h0, eO 9 [.ref k0, .ref k1, .ref k2, .ref k3, u4, .ref k5, u6, u7, u8, u9, u10, u11, u12, u13, u14, u15, u16, u17, u18, .ref k19, .ref k20, .ref k21, .ref k22, .ref k23, u24, .ref k25, .ref k26, .ref k27, u28, u29, .ref k30, .ref k31, u32, .ref k33, u34, u35, .ref k36, .ref k37, .ref k38, .ref k39]), (k25, eI (ty 0) 9000 en)] [] [0, 1] := ⟨rfl, rfl, rfl, rfl, by decide⟩
  refine cont_I C hP hD hS ct_1 (run_S (As := [.int 0, .int (-1)]) (rest := [.ref k25]) C hP hD hS ct_1 (c_mst l D ty 0 (by omega)) kS_PinchedBillModel_391 rfl hl.1 rfl (nle rfl) d_X9_endAt_6 ⟨by decide, by decide, by decide, by decide⟩) (fun r_3 w_4 H locs hw_2 hP hD hS => ?_)
  obtain ⟨rfl, rfl⟩ := hw_2
  have hP : va_P D vwCl [(h0, eO 9 [.ref k0, .ref k1, .ref k2, .ref k3, u4, .ref k5, u6, u7, u8, u9, u10, u11, u12, u13, u14, u15, u16, u17, u18, .ref k19, .ref k20, .ref k21, .ref k22, .ref k23, u24, .ref k25, .ref k26, .ref k27, u28, u29, .ref k30, .ref k31, u32, .ref k33, u34, u35, .ref k36, .ref k37, .ref k38, .ref k39]), (k25, eI (ty 0) 9000 en)] H := hP
  have hD : va_D A [(h0, eO 9 [.ref k0, .ref k1, .ref k2, .ref k3, u4, .ref k5, u6, u7, u8, u9, u10, u11, u12, u13, u14, u15, u16, u17, u18, .ref k19, .ref k20, .ref k21, .ref k22, .ref k23, u24, .ref k25, .ref k26, .ref k27, u28, u29, .ref k30, .ref k31, u32, .ref k33, u34, u35, .ref k36, .ref k37, .ref k38, .ref k39]), (k25, eI (ty 0) 9000 en)] := hD
  refine r_iald (v := 0) C hP 1 rfl 0 rfl (by decide) (by decide) (hga 0 (by omega)) d_X9_endAt_9 ?_
  exact ret_I (w := [(h0, eO 9 [.ref k0, .ref k1, .ref k2, .ref k3, u4, .ref k5, u6, u7, u8, u9, u10, u11, u12, u13, u14, u15, u16, u17, u18, .ref k19, .ref k20, .ref k21, .ref k22, .ref k23, u24, .ref k25, .ref k26, .ref k27, u28, u29, .ref k30, .ref k31, u32, .ref k33, u34, u35, .ref k36, .ref k37, .ref k38, .ref k39]), (k25, eI (ty 0) 9000 en)]) C hP hD hS [0, 1] rfl rfl ⟨rfl, rfl⟩ (by decide) (by decide) d_X9_endAt_10
set_option maxHeartbeats 4000000 in
set_option maxRecDepth 100000 in
theorem c_mmteQ (l : Launch) (D : va_G) (ty : Nat → ClassId) (h0 : Nat) (k0 : Nat) (k1 : Nat) (k2 : Nat) (k3 : Nat) (k5 : Nat) (k19 : Nat) (k20 : Nat) (k21 : Nat) (k22 : Nat) (k23 : Nat) (k25 : Nat) (k26 : Nat) (k27 : Nat) (k30 : Nat) (k31 : Nat) (k33 : Nat) (k36 : Nat) (k37 : Nat) (k38 : Nat) (k39 : Nat) (u4 : Value) (u6 : Value) (u7 : Value) (u8 : Value) (u9 : Value) (u10 : Value) (u11 : Value) (u12 : Value) (u13 : Value) (u14 : Value) (u15 : Value) (u16 : Value) (u17 : Value) (u18 : Value) (u24 : Value) (u28 : Value) (u29 : Value) (u32 : Value) (u34 : Value) (u35 : Value) (kf : Nat → Int32) (en : Nat → Int32) (st : Nat → Int32) (wy : Nat → Int32) (q : Nat) (hkf : KF kf) (hq : q < 10) : CC l D ty ⟨"PinchedBillModel", "manyThatEnd", "(I)I"⟩ prog_11_method_98_code 4 (some .int) 4 98 0 0 [.ref h0, .int (nI (100 * q))] [(h0, eO 9 [.ref k0, .ref k1, .ref k2, .ref k3, u4, .ref k5, u6, u7, u8, u9, u10, u11, u12, u13, u14, u15, u16, u17, u18, .ref k19, .ref k20, .ref k21, .ref k22, .ref k23, u24, .ref k25, .ref k26, .ref k27, u28, u29, .ref k30, .ref k31, u32, .ref k33, u34, u35, .ref k36, .ref k37, .ref k38, .ref k39]), (k0, eI (ty 0) 1875 kf), (k21, eI (ty 0) 1000 (fun _ => 0)), (k25, eI (ty 0) 9000 en), (k26, eI (ty 0) 9000 st), (k27, eI (ty 0) 9001 wy)] (QI D ty (fun (r : Int32) (w : va_W) => 1 = r ∧ w = [(h0, eO 9 [.ref k0, .ref k1, .ref k2, .ref k3, u4, .ref k5, u6, u7, u8, u9, u10, u11, u12, u13, u14, u15, u16, u17, u18, .ref k19, .ref k20, .ref k21, .ref k22, .ref k23, u24, .ref k25, .ref k26, .ref k27, u28, u29, .ref k30, .ref k31, u32, .ref k33, u34, u35, .ref k36, .ref k37, .ref k38, .ref k39])])) := by
  refine CC_of (by decide) ?_
  intro p e s m below meth c A C hP hD hS
  obtain ⟨⟨hx, hb, hml, hown, hts⟩, hr, hlocks, hnm, hK, hE, hA, hZ⟩ := id C
  refine startW [.ref h0, .int (nI (100 * q))] 4 (nle rfl) (lv := [(0, .ref h0), (1, .int (nI (100 * q)))]) rfl (fun ls hl => ?_)
  refine lv_aload_n hx hb d_X9_manyThatEnd_0 rfl (lv_at hl 0 rfl) ?_
  have ct_1 : Cut [(h0, eO 9 [.ref k0, .ref k1, .ref k2, .ref k3, u4, .ref k5, u6, u7, u8, u9, u10, u11, u12, u13, u14, u15, u16, u17, u18, .ref k19, .ref k20, .ref k21, .ref k22, .ref k23, u24, .ref k25, .ref k26, .ref k27, u28, u29, .ref k30, .ref k31, u32, .ref k33, u34, u35, .ref k36, .ref k37, .ref k38, .ref k39]), (k0, eI (ty 0) 1875 kf), (k21, eI (ty 0) 1000 (fun _ => 0)), (k25, eI (ty 0) 9000 en), (k26, eI (ty 0) 9000 st), (k27, eI (ty 0) 9001 wy)] [(h0, eO 9 [.ref k0, .ref k1, .ref k2, .ref k3, u4, .ref k5, u6, u7, u8, u9, u10, u11, u12, u13, u14, u15, u16, u17, u18, .ref k19, .ref k20, .ref k21, .ref k22, .ref k23, u24, .ref k25, .ref k26, .ref k27, u28, u29, .ref k30, .ref k31, u32, .ref k33, u34, u35, .ref k36, .ref k37, .ref k38, .ref k39]), (k0, eI (ty 0) 1875 kf), (k21, eI (ty 0) 1000 (fun _ => 0)), (k25, eI (ty 0) 9000 en), (k26, eI (ty 0) 9000 st), (k27, eI (ty 0) 9001 wy)] [] [0, 1, 2, 3, 4, 5] [] := ⟨rfl, rfl, rfl, rfl, by decide⟩
  refine cont_V C hP hD hS ct_1 (run_V (As := []) (rest := []) C hP hD hS ct_1 (c_mlaysAll l D ty h0 k0 k1 k2 k3 k5 k19 k20 k21 k22 k23 k25 k26 k27 k30 k31 k33 k36 k37 k38 k39 u4 u6 u7 u8 u9 u10 u11 u12 u13 u14 u15 u16 u17 u18 u24 u28 u29 u32 u34 u35 kf en st wy hkf) kV_PinchedBillModel_434 0 rfl rfl rfl rfl hl.1 rfl (nle rfl) d_X9_manyThatEnd_1 ⟨by decide, by decide, by decide, by decide⟩) (fun w_6 H locs hw_4 hP hD hS => ?_)
  obtain ⟨e9_2, s9_3, hga9_7, hsa9_8, rfl⟩ := hw_4
  have hP : va_P D vwCl [(h0, eO 9 [.ref k0, .ref k1, .ref k2, .ref k3, u4, .ref k5, u6, u7, u8, u9, u10, u11, u12, u13, u14, u15, u16, u17, u18, .ref k19, .ref k20, .ref k21, .ref k22, .ref k23, u24, .ref k25, .ref k26, .ref k27, u28, u29, .ref k30, .ref k31, u32, .ref k33, u34, u35, .ref k36, .ref k37, .ref k38, .ref k39]), (k0, eI (ty 0) 1875 kf), (k25, eI (ty 0) 9000 e9_2), (k26, eI (ty 0) 9000 s9_3)] H := hP
  have hD : va_D A [(h0, eO 9 [.ref k0, .ref k1, .ref k2, .ref k3, u4, .ref k5, u6, u7, u8, u9, u10, u11, u12, u13, u14, u15, u16, u17, u18, .ref k19, .ref k20, .ref k21, .ref k22, .ref k23, u24, .ref k25, .ref k26, .ref k27, u28, u29, .ref k30, .ref k31, u32, .ref k33, u34, u35, .ref k36, .ref k37, .ref k38, .ref k39]), (k0, eI (ty 0) 1875 kf), (k25, eI (ty 0) 9000 e9_2), (k26, eI (ty 0) 9000 s9_3)] := hD
  refine lv_iconst (v := 0) hx hb d_X9_manyThatEnd_4 (by decide) ?_
  refine lv_istore_n (lv' := [(2, .int 0), (0, .ref h0), (1, .int (nI (100 * q)))]) hx hb d_X9_manyThatEnd_5 rfl hl (by decide) rfl (fun ls hl => ?_)
  refine lv_iconst (v := 0) hx hb d_X9_manyThatEnd_6 (by decide) ?_
  refine lv_istore_n (lv' := [(3, .int 0), (2, .int 0), (0, .ref h0), (1, .int (nI (100 * q)))]) hx hb d_X9_manyThatEnd_7 rfl hl (by decide) rfl (fun ls hl => ?_)
  refine loopW2 (fun (i : Nat) (k : Nat) (H : Heap) (locs : List Loc) (ls : Array Slot) => (i ≤ 10) ∧ ((i ≤ q → k = 0) ∧ (q < i → k = 1)) ∧ va_P D vwCl [(h0, eO 9 [.ref k0, .ref k1, .ref k2, .ref k3, u4, .ref k5, u6, u7, u8, u9, u10, u11, u12, u13, u14, u15, u16, u17, u18, .ref k19, .ref k20, .ref k21, .ref k22, .ref k23, u24, .ref k25, .ref k26, .ref k27, u28, u29, .ref k30, .ref k31, u32, .ref k33, u34, u35, .ref k36, .ref k37, .ref k38, .ref k39]), (k0, eI (ty 0) 1875 kf), (k25, eI (ty 0) 9000 e9_2), (k26, eI (ty 0) 9000 s9_3)] H ∧ va_D A [(h0, eO 9 [.ref k0, .ref k1, .ref k2, .ref k3, u4, .ref k5, u6, u7, u8, u9, u10, u11, u12, u13, u14, u15, u16, u17, u18, .ref k19, .ref k20, .ref k21, .ref k22, .ref k23, u24, .ref k25, .ref k26, .ref k27, u28, u29, .ref k30, .ref k31, u32, .ref k33, u34, u35, .ref k36, .ref k37, .ref k38, .ref k39]), (k0, eI (ty 0) 1875 kf), (k25, eI (ty 0) 9000 e9_2), (k26, eI (ty 0) 9000 s9_3)] ∧ va_S A s.heap H locs ∧ lv_has ls 4 [(3, .int (nI (100 * i))), (2, .int (nI k)), (0, .ref h0), (1, .int (nI (100 * q)))]) (fun (i : Nat) (k : Nat) => 10 - i) ?_ 0 0 ⟨(by omega), (by omega), hP, hD, hS, lv_sub hl [0, 1, 2, 3] rfl⟩
  intro i k H locs ls hI ih_9
  obtain ⟨hi, hk, hP, hD, hS, hl⟩ := hI
  refine lv_iload_n hx hb d_X9_manyThatEnd_8 rfl (lv_at hl 0 rfl) ?_
  refine lv_sipush (v := 1000) hx hb d_X9_manyThatEnd_9 (by decide) ?_
  refine lv_icmp_ge (tgt := 42) hx hb d_X9_manyThatEnd_12 (by decide) (fun hc_10 => ?_) (fun hc_10 => ?_)
  · have hc_10 := un_le 1000 (100 * i) rfl rfl (by omega) (by omega) hc_10
    obtain rfl : i = 10 := by omega
    refine lv_iload_n hx hb d_X9_manyThatEnd_42 rfl (lv_at hl 1 rfl) ?_
    exact ret_I (w := [(h0, eO 9 [.ref k0, .ref k1, .ref k2, .ref k3, u4, .ref k5, u6, u7, u8, u9, u10, u11, u12, u13, u14, u15, u16, u17, u18, .ref k19, .ref k20, .ref k21, .ref k22, .ref k23, u24, .ref k25, .ref k26, .ref k27, u28, u29, .ref k30, .ref k31, u32, .ref k33, u34, u35, .ref k36, .ref k37, .ref k38, .ref k39])]) C hP hD hS [0] rfl rfl ⟨(Eq.symm (by obtain rfl : k = 1 := (by omega); rfl)), rfl⟩ (by decide) (by decide) d_X9_manyThatEnd_43
  · have hc_10 := un_nle 1000 (100 * i) rfl rfl (by omega) (by omega) hc_10
    refine lv_iload_n hx hb d_X9_manyThatEnd_15 rfl (lv_at hl 1 rfl) ?_
    refine lv_aload_n hx hb d_X9_manyThatEnd_16 rfl (lv_at hl 2 rfl) ?_
    refine lv_iload_n hx hb d_X9_manyThatEnd_17 rfl (lv_at hl 0 rfl) ?_
    have ct_11 : Cut [(h0, eO 9 [.ref k0, .ref k1, .ref k2, .ref k3, u4, .ref k5, u6, u7, u8, u9, u10, u11, u12, u13, u14, u15, u16, u17, u18, .ref k19, .ref k20, .ref k21, .ref k22, .ref k23, u24, .ref k25, .ref k26, .ref k27, u28, u29, .ref k30, .ref k31, u32, .ref k33, u34, u35, .ref k36, .ref k37, .ref k38, .ref k39]), (k0, eI (ty 0) 1875 kf), (k25, eI (ty 0) 9000 e9_2), (k26, eI (ty 0) 9000 s9_3)] [(h0, eO 9 [.ref k0, .ref k1, .ref k2, .ref k3, u4, .ref k5, u6, u7, u8, u9, u10, u11, u12, u13, u14, u15, u16, u17, u18, .ref k19, .ref k20, .ref k21, .ref k22, .ref k23, u24, .ref k25, .ref k26, .ref k27, u28, u29, .ref k30, .ref k31, u32, .ref k33, u34, u35, .ref k36, .ref k37, .ref k38, .ref k39]), (k25, eI (ty 0) 9000 e9_2)] [(k0, eI (ty 0) 1875 kf), (k26, eI (ty 0) 9000 s9_3)] [0, 2] [1, 3] := ⟨rfl, rfl, rfl, rfl, by decide⟩
    refine cont_I C hP hD hS ct_11 (run_V (As := [.int (nI (100 * i))]) (rest := [.int (nI k)]) C hP hD hS ct_11 (c_mendAt l D ty h0 k0 k1 k2 k3 k5 k19 k20 k21 k22 k23 k25 k26 k27 k30 k31 k33 k36 k37 k38 k39 u4 u6 u7 u8 u9 u10 u11 u12 u13 u14 u15 u16 u17 u18 u24 u28 u29 u32 u34 u35 e9_2 i (by omega) hga9_7) kV_PinchedBillModel_437 0 rfl rfl rfl rfl hl.1 rfl (nle rfl) d_X9_manyThatEnd_18 ⟨by decide, by decide, by decide, by decide⟩) (fun r_13 w_14 H locs hw_12 hP hD hS => ?_)
    obtain ⟨rfl, rfl⟩ := hw_12
    have hP : va_P D vwCl [(k0, eI (ty 0) 1875 kf), (k26, eI (ty 0) 9000 s9_3), (h0, eO 9 [.ref k0, .ref k1, .ref k2, .ref k3, u4, .ref k5, u6, u7, u8, u9, u10, u11, u12, u13, u14, u15, u16, u17, u18, .ref k19, .ref k20, .ref k21, .ref k22, .ref k23, u24, .ref k25, .ref k26, .ref k27, u28, u29, .ref k30, .ref k31, u32, .ref k33, u34, u35, .ref k36, .ref k37, .ref k38, .ref k39]), (k25, eI (ty 0) 9000 e9_2)] H := hP
    have hD : va_D A [(k0, eI (ty 0) 1875 kf), (k26, eI (ty 0) 9000 s9_3), (h0, eO 9 [.ref k0, .ref k1, .ref k2, .ref k3, u4, .ref k5, u6, u7, u8, u9, u10, u11, u12, u13, u14, u15, u16, u17, u18, .ref k19, .ref k20, .ref k21, .ref k22, .ref k23, u24, .ref k25, .ref k26, .ref k27, u28, u29, .ref k30, .ref k31, u32, .ref k33, u34, u35, .ref k36, .ref k37, .ref k38, .ref k39]), (k25, eI (ty 0) 9000 e9_2)] := hD
    refine lv_iload_n hx hb d_X9_manyThatEnd_21 rfl (lv_at hl 3 rfl) ?_
    refine lv_icmp_ne (tgt := 29) hx hb d_X9_manyThatEnd_22 (by decide) (fun hc_15 => ?_) (fun hc_15 => ?_)
    · have hc_15 := un_ne (100 * i) (100 * q) rfl rfl (by omega) (by omega) hc_15
      refine lv_iconst (v := 0) hx hb d_X9_manyThatEnd_29 (by decide) ?_
      refine r_iadd (z := (nI k)) C d_X9_manyThatEnd_30 (a_add k 0 k rfl rfl (by omega)) ?_
      refine lv_istore_n (lv' := [(2, .int (nI k)), (3, .int (nI (100 * i))), (0, .ref h0), (1, .int (nI (100 * q)))]) hx hb d_X9_manyThatEnd_31 rfl hl (by decide) rfl (fun ls hl => ?_)
      refine lv_iload_n hx hb d_X9_manyThatEnd_32 rfl (lv_at hl 1 rfl) ?_
      refine lv_aload_n hx hb d_X9_manyThatEnd_33 rfl (lv_at hl 2 rfl) ?_
      have ct_16 : Cut [(k0, eI (ty 0) 1875 kf), (k26, eI (ty 0) 9000 s9_3), (h0, eO 9 [.ref k0, .ref k1, .ref k2, .ref k3, u4, .ref k5, u6, u7, u8, u9, u10, u11, u12, u13, u14, u15, u16, u17, u18, .ref k19, .ref k20, .ref k21, .ref k22, .ref k23, u24, .ref k25, .ref k26, .ref k27, u28, u29, .ref k30, .ref k31, u32, .ref k33, u34, u35, .ref k36, .ref k37, .ref k38, .ref k39]), (k25, eI (ty 0) 9000 e9_2)] [(h0, eO 9 [.ref k0, .ref k1, .ref k2, .ref k3, u4, .ref k5, u6, u7, u8, u9, u10, u11, u12, u13, u14, u15, u16, u17, u18, .ref k19, .ref k20, .ref k21, .ref k22, .ref k23, u24, .ref k25, .ref k26, .ref k27, u28, u29, .ref k30, .ref k31, u32, .ref k33, u34, u35, .ref k36, .ref k37, .ref k38, .ref k39]), (k0, eI (ty 0) 1875 kf)] [(k26, eI (ty 0) 9000 s9_3), (k25, eI (ty 0) 9000 e9_2)] [2, 0] [1, 3] := ⟨rfl, rfl, rfl, rfl, by decide⟩
      refine cont_I C hP hD hS ct_16 (run_V (As := []) (rest := [.int (nI (100 * i))]) C hP hD hS ct_16 (c_mfine l D ty h0 k0 k1 k2 k3 k5 k19 k20 k21 k22 k23 k25 k26 k27 k30 k31 k33 k36 k37 k38 k39 u4 u6 u7 u8 u9 u10 u11 u12 u13 u14 u15 u16 u17 u18 u24 u28 u29 u32 u34 u35 kf hkf) kV_PinchedBillModel_264 2 rfl rfl rfl rfl hl.1 rfl (nle rfl) d_X9_manyThatEnd_34 ⟨by decide, by decide, by decide, by decide⟩) (fun r_18 w_19 H locs hw_17 hP hD hS => ?_)
      obtain ⟨rfl, rfl⟩ := hw_17
      have hP : va_P D vwCl [(k26, eI (ty 0) 9000 s9_3), (k25, eI (ty 0) 9000 e9_2), (h0, eO 9 [.ref k0, .ref k1, .ref k2, .ref k3, u4, .ref k5, u6, u7, u8, u9, u10, u11, u12, u13, u14, u15, u16, u17, u18, .ref k19, .ref k20, .ref k21, .ref k22, .ref k23, u24, .ref k25, .ref k26, .ref k27, u28, u29, .ref k30, .ref k31, u32, .ref k33, u34, u35, .ref k36, .ref k37, .ref k38, .ref k39]), (k0, eI (ty 0) 1875 kf)] H := hP
      have hD : va_D A [(k26, eI (ty 0) 9000 s9_3), (k25, eI (ty 0) 9000 e9_2), (h0, eO 9 [.ref k0, .ref k1, .ref k2, .ref k3, u4, .ref k5, u6, u7, u8, u9, u10, u11, u12, u13, u14, u15, u16, u17, u18, .ref k19, .ref k20, .ref k21, .ref k22, .ref k23, u24, .ref k25, .ref k26, .ref k27, u28, u29, .ref k30, .ref k31, u32, .ref k33, u34, u35, .ref k36, .ref k37, .ref k38, .ref k39]), (k0, eI (ty 0) 1875 kf)] := hD
      refine r_iadd (z := (nI ((100 * i) + 100))) C d_X9_manyThatEnd_37 (a_add (100 * i) 100 ((100 * i) + 100) rfl rfl (by omega)) ?_
      refine lv_istore_n (lv' := [(3, .int (nI ((100 * i) + 100))), (2, .int (nI k)), (0, .ref h0), (1, .int (nI (100 * q)))]) hx hb d_X9_manyThatEnd_38 rfl hl (by decide) rfl (fun ls hl => ?_)
      refine lv_goto (tgt := 8) hx hb d_X9_manyThatEnd_39 (by decide) ?_
      exact ih_9 (i + 1) k _ _ _ (by omega) ⟨(by omega), (by omega), sub_P hP (is := [2, 3, 1, 0]) rfl, hD.sub [2, 3, 1, 0] (by decide) rfl, hS, lv_sub hl [0, 1, 2, 3] rfl⟩
    · have hc_15 := un_eq (100 * i) (100 * q) rfl rfl (by omega) (by omega) hc_15
      refine lv_iconst (v := 1) hx hb d_X9_manyThatEnd_25 (by decide) ?_
      refine lv_goto (tgt := 30) hx hb d_X9_manyThatEnd_26 (by decide) ?_
      refine r_iadd (z := (nI (k + 1))) C d_X9_manyThatEnd_30 (a_add k 1 (k + 1) rfl rfl (by omega)) ?_
      refine lv_istore_n (lv' := [(2, .int (nI (k + 1))), (3, .int (nI (100 * i))), (0, .ref h0), (1, .int (nI (100 * q)))]) hx hb d_X9_manyThatEnd_31 rfl hl (by decide) rfl (fun ls hl => ?_)
      refine lv_iload_n hx hb d_X9_manyThatEnd_32 rfl (lv_at hl 1 rfl) ?_
      refine lv_aload_n hx hb d_X9_manyThatEnd_33 rfl (lv_at hl 2 rfl) ?_
      have ct_20 : Cut [(k0, eI (ty 0) 1875 kf), (k26, eI (ty 0) 9000 s9_3), (h0, eO 9 [.ref k0, .ref k1, .ref k2, .ref k3, u4, .ref k5, u6, u7, u8, u9, u10, u11, u12, u13, u14, u15, u16, u17, u18, .ref k19, .ref k20, .ref k21, .ref k22, .ref k23, u24, .ref k25, .ref k26, .ref k27, u28, u29, .ref k30, .ref k31, u32, .ref k33, u34, u35, .ref k36, .ref k37, .ref k38, .ref k39]), (k25, eI (ty 0) 9000 e9_2)] [(h0, eO 9 [.ref k0, .ref k1, .ref k2, .ref k3, u4, .ref k5, u6, u7, u8, u9, u10, u11, u12, u13, u14, u15, u16, u17, u18, .ref k19, .ref k20, .ref k21, .ref k22, .ref k23, u24, .ref k25, .ref k26, .ref k27, u28, u29, .ref k30, .ref k31, u32, .ref k33, u34, u35, .ref k36, .ref k37, .ref k38, .ref k39]), (k0, eI (ty 0) 1875 kf)] [(k26, eI (ty 0) 9000 s9_3), (k25, eI (ty 0) 9000 e9_2)] [2, 0] [1, 3] := ⟨rfl, rfl, rfl, rfl, by decide⟩
      refine cont_I C hP hD hS ct_20 (run_V (As := []) (rest := [.int (nI (100 * i))]) C hP hD hS ct_20 (c_mfine l D ty h0 k0 k1 k2 k3 k5 k19 k20 k21 k22 k23 k25 k26 k27 k30 k31 k33 k36 k37 k38 k39 u4 u6 u7 u8 u9 u10 u11 u12 u13 u14 u15 u16 u17 u18 u24 u28 u29 u32 u34 u35 kf hkf) kV_PinchedBillModel_264 2 rfl rfl rfl rfl hl.1 rfl (nle rfl) d_X9_manyThatEnd_34 ⟨by decide, by decide, by decide, by decide⟩) (fun r_22 w_23 H locs hw_21 hP hD hS => ?_)
      obtain ⟨rfl, rfl⟩ := hw_21
      have hP : va_P D vwCl [(k26, eI (ty 0) 9000 s9_3), (k25, eI (ty 0) 9000 e9_2), (h0, eO 9 [.ref k0, .ref k1, .ref k2, .ref k3, u4, .ref k5, u6, u7, u8, u9, u10, u11, u12, u13, u14, u15, u16, u17, u18, .ref k19, .ref k20, .ref k21, .ref k22, .ref k23, u24, .ref k25, .ref k26, .ref k27, u28, u29, .ref k30, .ref k31, u32, .ref k33, u34, u35, .ref k36, .ref k37, .ref k38, .ref k39]), (k0, eI (ty 0) 1875 kf)] H := hP
      have hD : va_D A [(k26, eI (ty 0) 9000 s9_3), (k25, eI (ty 0) 9000 e9_2), (h0, eO 9 [.ref k0, .ref k1, .ref k2, .ref k3, u4, .ref k5, u6, u7, u8, u9, u10, u11, u12, u13, u14, u15, u16, u17, u18, .ref k19, .ref k20, .ref k21, .ref k22, .ref k23, u24, .ref k25, .ref k26, .ref k27, u28, u29, .ref k30, .ref k31, u32, .ref k33, u34, u35, .ref k36, .ref k37, .ref k38, .ref k39]), (k0, eI (ty 0) 1875 kf)] := hD
      refine r_iadd (z := (nI ((100 * i) + 100))) C d_X9_manyThatEnd_37 (a_add (100 * i) 100 ((100 * i) + 100) rfl rfl (by omega)) ?_
      refine lv_istore_n (lv' := [(3, .int (nI ((100 * i) + 100))), (2, .int (nI (k + 1))), (0, .ref h0), (1, .int (nI (100 * q)))]) hx hb d_X9_manyThatEnd_38 rfl hl (by decide) rfl (fun ls hl => ?_)
      refine lv_goto (tgt := 8) hx hb d_X9_manyThatEnd_39 (by decide) ?_
      exact ih_9 (i + 1) (k + 1) _ _ _ (by omega) ⟨(by omega), (by omega), sub_P hP (is := [2, 3, 1, 0]) rfl, hD.sub [2, 3, 1, 0] (by decide) rfl, hS, lv_sub hl [0, 1, 2, 3] rfl⟩
set_option maxHeartbeats 4000000 in
set_option maxRecDepth 100000 in
theorem c_mmteN (l : Launch) (D : va_G) (ty : Nat → ClassId) (h0 : Nat) (k0 : Nat) (k1 : Nat) (k2 : Nat) (k3 : Nat) (k5 : Nat) (k19 : Nat) (k20 : Nat) (k21 : Nat) (k22 : Nat) (k23 : Nat) (k25 : Nat) (k26 : Nat) (k27 : Nat) (k30 : Nat) (k31 : Nat) (k33 : Nat) (k36 : Nat) (k37 : Nat) (k38 : Nat) (k39 : Nat) (u4 : Value) (u6 : Value) (u7 : Value) (u8 : Value) (u9 : Value) (u10 : Value) (u11 : Value) (u12 : Value) (u13 : Value) (u14 : Value) (u15 : Value) (u16 : Value) (u17 : Value) (u18 : Value) (u24 : Value) (u28 : Value) (u29 : Value) (u32 : Value) (u34 : Value) (u35 : Value) (kf : Nat → Int32) (en : Nat → Int32) (st : Nat → Int32) (wy : Nat → Int32) (hkf : KF kf) : CC l D ty ⟨"PinchedBillModel", "manyThatEnd", "(I)I"⟩ prog_11_method_98_code 4 (some .int) 4 98 0 0 [.ref h0, .int (-1)] [(h0, eO 9 [.ref k0, .ref k1, .ref k2, .ref k3, u4, .ref k5, u6, u7, u8, u9, u10, u11, u12, u13, u14, u15, u16, u17, u18, .ref k19, .ref k20, .ref k21, .ref k22, .ref k23, u24, .ref k25, .ref k26, .ref k27, u28, u29, .ref k30, .ref k31, u32, .ref k33, u34, u35, .ref k36, .ref k37, .ref k38, .ref k39]), (k0, eI (ty 0) 1875 kf), (k21, eI (ty 0) 1000 (fun _ => 0)), (k25, eI (ty 0) 9000 en), (k26, eI (ty 0) 9000 st), (k27, eI (ty 0) 9001 wy)] (QI D ty (fun (r : Int32) (w : va_W) => 0 = r ∧ w = [(h0, eO 9 [.ref k0, .ref k1, .ref k2, .ref k3, u4, .ref k5, u6, u7, u8, u9, u10, u11, u12, u13, u14, u15, u16, u17, u18, .ref k19, .ref k20, .ref k21, .ref k22, .ref k23, u24, .ref k25, .ref k26, .ref k27, u28, u29, .ref k30, .ref k31, u32, .ref k33, u34, u35, .ref k36, .ref k37, .ref k38, .ref k39])])) := by
  refine CC_of (by decide) ?_
  intro p e s m below meth c A C hP hD hS
  obtain ⟨⟨hx, hb, hml, hown, hts⟩, hr, hlocks, hnm, hK, hE, hA, hZ⟩ := id C
  refine startW [.ref h0, .int (-1)] 4 (nle rfl) (lv := [(0, .ref h0), (1, .int (-1))]) rfl (fun ls hl => ?_)
  refine lv_aload_n hx hb d_X9_manyThatEnd_0 rfl (lv_at hl 0 rfl) ?_
  have ct_1 : Cut [(h0, eO 9 [.ref k0, .ref k1, .ref k2, .ref k3, u4, .ref k5, u6, u7, u8, u9, u10, u11, u12, u13, u14, u15, u16, u17, u18, .ref k19, .ref k20, .ref k21, .ref k22, .ref k23, u24, .ref k25, .ref k26, .ref k27, u28, u29, .ref k30, .ref k31, u32, .ref k33, u34, u35, .ref k36, .ref k37, .ref k38, .ref k39]), (k0, eI (ty 0) 1875 kf), (k21, eI (ty 0) 1000 (fun _ => 0)), (k25, eI (ty 0) 9000 en), (k26, eI (ty 0) 9000 st), (k27, eI (ty 0) 9001 wy)] [(h0, eO 9 [.ref k0, .ref k1, .ref k2, .ref k3, u4, .ref k5, u6, u7, u8, u9, u10, u11, u12, u13, u14, u15, u16, u17, u18, .ref k19, .ref k20, .ref k21, .ref k22, .ref k23, u24, .ref k25, .ref k26, .ref k27, u28, u29, .ref k30, .ref k31, u32, .ref k33, u34, u35, .ref k36, .ref k37, .ref k38, .ref k39]), (k0, eI (ty 0) 1875 kf), (k21, eI (ty 0) 1000 (fun _ => 0)), (k25, eI (ty 0) 9000 en), (k26, eI (ty 0) 9000 st), (k27, eI (ty 0) 9001 wy)] [] [0, 1, 2, 3, 4, 5] [] := ⟨rfl, rfl, rfl, rfl, by decide⟩
  refine cont_V C hP hD hS ct_1 (run_V (As := []) (rest := []) C hP hD hS ct_1 (c_mlaysAll l D ty h0 k0 k1 k2 k3 k5 k19 k20 k21 k22 k23 k25 k26 k27 k30 k31 k33 k36 k37 k38 k39 u4 u6 u7 u8 u9 u10 u11 u12 u13 u14 u15 u16 u17 u18 u24 u28 u29 u32 u34 u35 kf en st wy hkf) kV_PinchedBillModel_434 0 rfl rfl rfl rfl hl.1 rfl (nle rfl) d_X9_manyThatEnd_1 ⟨by decide, by decide, by decide, by decide⟩) (fun w_6 H locs hw_4 hP hD hS => ?_)
  obtain ⟨e9_2, s9_3, hga9_7, hsa9_8, rfl⟩ := hw_4
  have hP : va_P D vwCl [(h0, eO 9 [.ref k0, .ref k1, .ref k2, .ref k3, u4, .ref k5, u6, u7, u8, u9, u10, u11, u12, u13, u14, u15, u16, u17, u18, .ref k19, .ref k20, .ref k21, .ref k22, .ref k23, u24, .ref k25, .ref k26, .ref k27, u28, u29, .ref k30, .ref k31, u32, .ref k33, u34, u35, .ref k36, .ref k37, .ref k38, .ref k39]), (k0, eI (ty 0) 1875 kf), (k25, eI (ty 0) 9000 e9_2), (k26, eI (ty 0) 9000 s9_3)] H := hP
  have hD : va_D A [(h0, eO 9 [.ref k0, .ref k1, .ref k2, .ref k3, u4, .ref k5, u6, u7, u8, u9, u10, u11, u12, u13, u14, u15, u16, u17, u18, .ref k19, .ref k20, .ref k21, .ref k22, .ref k23, u24, .ref k25, .ref k26, .ref k27, u28, u29, .ref k30, .ref k31, u32, .ref k33, u34, u35, .ref k36, .ref k37, .ref k38, .ref k39]), (k0, eI (ty 0) 1875 kf), (k25, eI (ty 0) 9000 e9_2), (k26, eI (ty 0) 9000 s9_3)] := hD
  refine lv_iconst (v := 0) hx hb d_X9_manyThatEnd_4 (by decide) ?_
  refine lv_istore_n (lv' := [(2, .int 0), (0, .ref h0), (1, .int (-1))]) hx hb d_X9_manyThatEnd_5 rfl hl (by decide) rfl (fun ls hl => ?_)
  refine lv_iconst (v := 0) hx hb d_X9_manyThatEnd_6 (by decide) ?_
  refine lv_istore_n (lv' := [(3, .int 0), (2, .int 0), (0, .ref h0), (1, .int (-1))]) hx hb d_X9_manyThatEnd_7 rfl hl (by decide) rfl (fun ls hl => ?_)
  refine loopW1 (fun (i : Nat) (H : Heap) (locs : List Loc) (ls : Array Slot) => (i ≤ 10) ∧ va_P D vwCl [(h0, eO 9 [.ref k0, .ref k1, .ref k2, .ref k3, u4, .ref k5, u6, u7, u8, u9, u10, u11, u12, u13, u14, u15, u16, u17, u18, .ref k19, .ref k20, .ref k21, .ref k22, .ref k23, u24, .ref k25, .ref k26, .ref k27, u28, u29, .ref k30, .ref k31, u32, .ref k33, u34, u35, .ref k36, .ref k37, .ref k38, .ref k39]), (k0, eI (ty 0) 1875 kf), (k25, eI (ty 0) 9000 e9_2), (k26, eI (ty 0) 9000 s9_3)] H ∧ va_D A [(h0, eO 9 [.ref k0, .ref k1, .ref k2, .ref k3, u4, .ref k5, u6, u7, u8, u9, u10, u11, u12, u13, u14, u15, u16, u17, u18, .ref k19, .ref k20, .ref k21, .ref k22, .ref k23, u24, .ref k25, .ref k26, .ref k27, u28, u29, .ref k30, .ref k31, u32, .ref k33, u34, u35, .ref k36, .ref k37, .ref k38, .ref k39]), (k0, eI (ty 0) 1875 kf), (k25, eI (ty 0) 9000 e9_2), (k26, eI (ty 0) 9000 s9_3)] ∧ va_S A s.heap H locs ∧ lv_has ls 4 [(3, .int (nI (100 * i))), (2, .int 0), (0, .ref h0), (1, .int (-1))]) (fun (i : Nat) => 10 - i) ?_ 0 ⟨(by omega), hP, hD, hS, lv_sub hl [0, 1, 2, 3] rfl⟩
  intro i H locs ls hI ih_9
  obtain ⟨hi, hP, hD, hS, hl⟩ := hI
  refine lv_iload_n hx hb d_X9_manyThatEnd_8 rfl (lv_at hl 0 rfl) ?_
  refine lv_sipush (v := 1000) hx hb d_X9_manyThatEnd_9 (by decide) ?_
  refine lv_icmp_ge (tgt := 42) hx hb d_X9_manyThatEnd_12 (by decide) (fun hc_10 => ?_) (fun hc_10 => ?_)
  · have hc_10 := un_le 1000 (100 * i) rfl rfl (by omega) (by omega) hc_10
    obtain rfl : i = 10 := by omega
    refine lv_iload_n hx hb d_X9_manyThatEnd_42 rfl (lv_at hl 1 rfl) ?_
    exact ret_I (w := [(h0, eO 9 [.ref k0, .ref k1, .ref k2, .ref k3, u4, .ref k5, u6, u7, u8, u9, u10, u11, u12, u13, u14, u15, u16, u17, u18, .ref k19, .ref k20, .ref k21, .ref k22, .ref k23, u24, .ref k25, .ref k26, .ref k27, u28, u29, .ref k30, .ref k31, u32, .ref k33, u34, u35, .ref k36, .ref k37, .ref k38, .ref k39])]) C hP hD hS [0] rfl rfl ⟨rfl, rfl⟩ (by decide) (by decide) d_X9_manyThatEnd_43
  · have hc_10 := un_nle 1000 (100 * i) rfl rfl (by omega) (by omega) hc_10
    refine lv_iload_n hx hb d_X9_manyThatEnd_15 rfl (lv_at hl 1 rfl) ?_
    refine lv_aload_n hx hb d_X9_manyThatEnd_16 rfl (lv_at hl 2 rfl) ?_
    refine lv_iload_n hx hb d_X9_manyThatEnd_17 rfl (lv_at hl 0 rfl) ?_
    have ct_11 : Cut [(h0, eO 9 [.ref k0, .ref k1, .ref k2, .ref k3, u4, .ref k5, u6, u7, u8, u9, u10, u11, u12, u13, u14, u15, u16, u17, u18, .ref k19, .ref k20, .ref k21, .ref k22, .ref k23, u24, .ref k25, .ref k26, .ref k27, u28, u29, .ref k30, .ref k31, u32, .ref k33, u34, u35, .ref k36, .ref k37, .ref k38, .ref k39]), (k0, eI (ty 0) 1875 kf), (k25, eI (ty 0) 9000 e9_2), (k26, eI (ty 0) 9000 s9_3)] [(h0, eO 9 [.ref k0, .ref k1, .ref k2, .ref k3, u4, .ref k5, u6, u7, u8, u9, u10, u11, u12, u13, u14, u15, u16, u17, u18, .ref k19, .ref k20, .ref k21, .ref k22, .ref k23, u24, .ref k25, .ref k26, .ref k27, u28, u29, .ref k30, .ref k31, u32, .ref k33, u34, u35, .ref k36, .ref k37, .ref k38, .ref k39]), (k25, eI (ty 0) 9000 e9_2)] [(k0, eI (ty 0) 1875 kf), (k26, eI (ty 0) 9000 s9_3)] [0, 2] [1, 3] := ⟨rfl, rfl, rfl, rfl, by decide⟩
    refine cont_I C hP hD hS ct_11 (run_V (As := [.int (nI (100 * i))]) (rest := [.int 0]) C hP hD hS ct_11 (c_mendAt l D ty h0 k0 k1 k2 k3 k5 k19 k20 k21 k22 k23 k25 k26 k27 k30 k31 k33 k36 k37 k38 k39 u4 u6 u7 u8 u9 u10 u11 u12 u13 u14 u15 u16 u17 u18 u24 u28 u29 u32 u34 u35 e9_2 i (by omega) hga9_7) kV_PinchedBillModel_437 0 rfl rfl rfl rfl hl.1 rfl (nle rfl) d_X9_manyThatEnd_18 ⟨by decide, by decide, by decide, by decide⟩) (fun r_13 w_14 H locs hw_12 hP hD hS => ?_)
    obtain ⟨rfl, rfl⟩ := hw_12
    have hP : va_P D vwCl [(k0, eI (ty 0) 1875 kf), (k26, eI (ty 0) 9000 s9_3), (h0, eO 9 [.ref k0, .ref k1, .ref k2, .ref k3, u4, .ref k5, u6, u7, u8, u9, u10, u11, u12, u13, u14, u15, u16, u17, u18, .ref k19, .ref k20, .ref k21, .ref k22, .ref k23, u24, .ref k25, .ref k26, .ref k27, u28, u29, .ref k30, .ref k31, u32, .ref k33, u34, u35, .ref k36, .ref k37, .ref k38, .ref k39]), (k25, eI (ty 0) 9000 e9_2)] H := hP
    have hD : va_D A [(k0, eI (ty 0) 1875 kf), (k26, eI (ty 0) 9000 s9_3), (h0, eO 9 [.ref k0, .ref k1, .ref k2, .ref k3, u4, .ref k5, u6, u7, u8, u9, u10, u11, u12, u13, u14, u15, u16, u17, u18, .ref k19, .ref k20, .ref k21, .ref k22, .ref k23, u24, .ref k25, .ref k26, .ref k27, u28, u29, .ref k30, .ref k31, u32, .ref k33, u34, u35, .ref k36, .ref k37, .ref k38, .ref k39]), (k25, eI (ty 0) 9000 e9_2)] := hD
    refine lv_iload_n hx hb d_X9_manyThatEnd_21 rfl (lv_at hl 3 rfl) ?_
    refine b_icmp_neT C 29 d_X9_manyThatEnd_22 (by decide) (n_neneg (100 * i) rfl (by omega) (by decide)) ?_
    refine lv_iconst (v := 0) hx hb d_X9_manyThatEnd_29 (by decide) ?_
    refine r_iadd (z := 0) C d_X9_manyThatEnd_30 (by decide) ?_
    refine lv_istore_n (lv' := [(2, .int 0), (3, .int (nI (100 * i))), (0, .ref h0), (1, .int (-1))]) hx hb d_X9_manyThatEnd_31 rfl hl (by decide) rfl (fun ls hl => ?_)
    refine lv_iload_n hx hb d_X9_manyThatEnd_32 rfl (lv_at hl 1 rfl) ?_
    refine lv_aload_n hx hb d_X9_manyThatEnd_33 rfl (lv_at hl 2 rfl) ?_
    have ct_15 : Cut [(k0, eI (ty 0) 1875 kf), (k26, eI (ty 0) 9000 s9_3), (h0, eO 9 [.ref k0, .ref k1, .ref k2, .ref k3, u4, .ref k5, u6, u7, u8, u9, u10, u11, u12, u13, u14, u15, u16, u17, u18, .ref k19, .ref k20, .ref k21, .ref k22, .ref k23, u24, .ref k25, .ref k26, .ref k27, u28, u29, .ref k30, .ref k31, u32, .ref k33, u34, u35, .ref k36, .ref k37, .ref k38, .ref k39]), (k25, eI (ty 0) 9000 e9_2)] [(h0, eO 9 [.ref k0, .ref k1, .ref k2, .ref k3, u4, .ref k5, u6, u7, u8, u9, u10, u11, u12, u13, u14, u15, u16, u17, u18, .ref k19, .ref k20, .ref k21, .ref k22, .ref k23, u24, .ref k25, .ref k26, .ref k27, u28, u29, .ref k30, .ref k31, u32, .ref k33, u34, u35, .ref k36, .ref k37, .ref k38, .ref k39]), (k0, eI (ty 0) 1875 kf)] [(k26, eI (ty 0) 9000 s9_3), (k25, eI (ty 0) 9000 e9_2)] [2, 0] [1, 3] := ⟨rfl, rfl, rfl, rfl, by decide⟩
    refine cont_I C hP hD hS ct_15 (run_V (As := []) (rest := [.int (nI (100 * i))]) C hP hD hS ct_15 (c_mfine l D ty h0 k0 k1 k2 k3 k5 k19 k20 k21 k22 k23 k25 k26 k27 k30 k31 k33 k36 k37 k38 k39 u4 u6 u7 u8 u9 u10 u11 u12 u13 u14 u15 u16 u17 u18 u24 u28 u29 u32 u34 u35 kf hkf) kV_PinchedBillModel_264 2 rfl rfl rfl rfl hl.1 rfl (nle rfl) d_X9_manyThatEnd_34 ⟨by decide, by decide, by decide, by decide⟩) (fun r_17 w_18 H locs hw_16 hP hD hS => ?_)
    obtain ⟨rfl, rfl⟩ := hw_16
    have hP : va_P D vwCl [(k26, eI (ty 0) 9000 s9_3), (k25, eI (ty 0) 9000 e9_2), (h0, eO 9 [.ref k0, .ref k1, .ref k2, .ref k3, u4, .ref k5, u6, u7, u8, u9, u10, u11, u12, u13, u14, u15, u16, u17, u18, .ref k19, .ref k20, .ref k21, .ref k22, .ref k23, u24, .ref k25, .ref k26, .ref k27, u28, u29, .ref k30, .ref k31, u32, .ref k33, u34, u35, .ref k36, .ref k37, .ref k38, .ref k39]), (k0, eI (ty 0) 1875 kf)] H := hP
    have hD : va_D A [(k26, eI (ty 0) 9000 s9_3), (k25, eI (ty 0) 9000 e9_2), (h0, eO 9 [.ref k0, .ref k1, .ref k2, .ref k3, u4, .ref k5, u6, u7, u8, u9, u10, u11, u12, u13, u14, u15, u16, u17, u18, .ref k19, .ref k20, .ref k21, .ref k22, .ref k23, u24, .ref k25, .ref k26, .ref k27, u28, u29, .ref k30, .ref k31, u32, .ref k33, u34, u35, .ref k36, .ref k37, .ref k38, .ref k39]), (k0, eI (ty 0) 1875 kf)] := hD
    refine r_iadd (z := (nI ((100 * i) + 100))) C d_X9_manyThatEnd_37 (a_add (100 * i) 100 ((100 * i) + 100) rfl rfl (by omega)) ?_
    refine lv_istore_n (lv' := [(3, .int (nI ((100 * i) + 100))), (2, .int 0), (0, .ref h0), (1, .int (-1))]) hx hb d_X9_manyThatEnd_38 rfl hl (by decide) rfl (fun ls hl => ?_)
    refine lv_goto (tgt := 8) hx hb d_X9_manyThatEnd_39 (by decide) ?_
    exact ih_9 (i + 1) _ _ _ (by omega) ⟨(by omega), sub_P hP (is := [2, 3, 1, 0]) rfl, hD.sub [2, 3, 1, 0] (by decide) rfl, hS, lv_sub hl [0, 1, 2, 3] rfl⟩
set_option maxHeartbeats 4000000 in
set_option maxRecDepth 100000 in
theorem c_mgoesOn (l : Launch) (D : va_G) (ty : Nat → ClassId) (h0 : Nat) (k0 : Nat) (k1 : Nat) (k2 : Nat) (k3 : Nat) (k5 : Nat) (k19 : Nat) (k20 : Nat) (k21 : Nat) (k22 : Nat) (k23 : Nat) (k25 : Nat) (k26 : Nat) (k27 : Nat) (k30 : Nat) (k31 : Nat) (k33 : Nat) (k36 : Nat) (k37 : Nat) (k38 : Nat) (k39 : Nat) (u4 : Value) (u6 : Value) (u7 : Value) (u8 : Value) (u9 : Value) (u10 : Value) (u11 : Value) (u12 : Value) (u13 : Value) (u14 : Value) (u15 : Value) (u16 : Value) (u17 : Value) (u18 : Value) (u24 : Value) (u28 : Value) (u29 : Value) (u32 : Value) (u34 : Value) (u35 : Value) (kf : Nat → Int32) (b : Nat) (n : Int32) (hkf : KF kf) (hbd : b < 1000) : CC l D ty ⟨"PinchedBillModel", "goesOn", "(II)I"⟩ prog_11_method_89_code 6 (some .int) 2 49 0 0 [.ref h0, .int (nI (9 * b)), .int n] [(h0, eO 9 [.ref k0, .ref k1, .ref k2, .ref k3, u4, .ref k5, u6, u7, u8, u9, u10, u11, u12, u13, u14, u15, u16, u17, u18, .ref k19, .ref k20, .ref k21, .ref k22, .ref k23, u24, .ref k25, .ref k26, .ref k27, u28, u29, .ref k30, .ref k31, u32, .ref k33, u34, u35, .ref k36, .ref k37, .ref k38, .ref k39]), (k0, eI (ty 0) 1875 kf), (k21, eI (ty 0) 1000 (fun _ => 0))] (QI D ty (fun (r : Int32) (w : va_W) => (nI (9 * b)) = r ∧ w = [(h0, eO 9 [.ref k0, .ref k1, .ref k2, .ref k3, u4, .ref k5, u6, u7, u8, u9, u10, u11, u12, u13, u14, u15, u16, u17, u18, .ref k19, .ref k20, .ref k21, .ref k22, .ref k23, u24, .ref k25, .ref k26, .ref k27, u28, u29, .ref k30, .ref k31, u32, .ref k33, u34, u35, .ref k36, .ref k37, .ref k38, .ref k39]), (k0, eI (ty 0) 1875 kf), (k21, eI (ty 0) 1000 (fun _ => 0))])) := by
  refine CC_of (by decide) ?_
  intro p e s m below meth c A C hP hD hS
  obtain ⟨⟨hx, hb, hml, hown, hts⟩, hr, hlocks, hnm, hK, hE, hA, hZ⟩ := id C
  refine startW [.ref h0, .int (nI (9 * b)), .int n] 6 (nle rfl) (lv := [(0, .ref h0), (1, .int (nI (9 * b))), (2, .int n)]) rfl (fun ls hl => ?_)
  refine lv_iload_n hx hb d_X9_goesOn_0 rfl (lv_at hl 1 rfl) ?_
  refine lv_istore_n (lv' := [(3, .int (nI (9 * b))), (0, .ref h0), (1, .int (nI (9 * b))), (2, .int n)]) hx hb d_X9_goesOn_1 rfl hl (by decide) rfl (fun ls hl => ?_)
  refine lv_iconst (v := 0) hx hb d_X9_goesOn_2 (by decide) ?_
  refine lv_istore (lv' := [(4, .int 0), (3, .int (nI (9 * b))), (0, .ref h0), (1, .int (nI (9 * b))), (2, .int n)]) hx hb d_X9_goesOn_3 hl (by decide) rfl (fun ls hl => ?_)
  refine lv_iload hx hb d_X9_goesOn_5 (lv_at hl 0 rfl) ?_
  refine lv_iload_n hx hb d_X9_goesOn_7 rfl (lv_at hl 4 rfl) ?_
  refine lv_icmp_ge (tgt := 42) hx hb d_X9_goesOn_8 (by decide) (fun hc_1 => ?_) (fun hc_1 => ?_)
  · refine lv_iload_n hx hb d_X9_goesOn_42 rfl (lv_at hl 1 rfl) ?_
    exact ret_I (w := [(h0, eO 9 [.ref k0, .ref k1, .ref k2, .ref k3, u4, .ref k5, u6, u7, u8, u9, u10, u11, u12, u13, u14, u15, u16, u17, u18, .ref k19, .ref k20, .ref k21, .ref k22, .ref k23, u24, .ref k25, .ref k26, .ref k27, u28, u29, .ref k30, .ref k31, u32, .ref k33, u34, u35, .ref k36, .ref k37, .ref k38, .ref k39]), (k0, eI (ty 0) 1875 kf), (k21, eI (ty 0) 1000 (fun _ => 0))]) C hP hD hS [0, 1, 2] rfl rfl ⟨rfl, rfl⟩ (by decide) (by decide) d_X9_goesOn_43
  · refine lv_aload_n hx hb d_X9_goesOn_11 rfl (lv_at hl 2 rfl) ?_
    refine lv_iload_n hx hb d_X9_goesOn_12 rfl (lv_at hl 1 rfl) ?_
    refine lv_aload_n hx hb d_X9_goesOn_13 rfl (lv_at hl 2 rfl) ?_
    refine r_get (v := .ref k0) C hP 0 rfl rfl lay_X9 0 (by decide) k_1545 rfl d_X9_goesOn_14 ?_
    refine lv_bipush (v := 8) hx hb d_X9_goesOn_17 (by decide) ?_
    refine r_iald (v := 0) C hP 1 rfl 8 rfl (by decide) (by decide) hkf.2.2 d_X9_goesOn_19 ?_
    have ct_2 : Cut [(h0, eO 9 [.ref k0, .ref k1, .ref k2, .ref k3, u4, .ref k5, u6, u7, u8, u9, u10, u11, u12, u13, u14, u15, u16, u17, u18, .ref k19, .ref k20, .ref k21, .ref k22, .ref k23, u24, .ref k25, .ref k26, .ref k27, u28, u29, .ref k30, .ref k31, u32, .ref k33, u34, u35, .ref k36, .ref k37, .ref k38, .ref k39]), (k0, eI (ty 0) 1875 kf), (k21, eI (ty 0) 1000 (fun _ => 0))] [(h0, eO 9 [.ref k0, .ref k1, .ref k2, .ref k3, u4, .ref k5, u6, u7, u8, u9, u10, u11, u12, u13, u14, u15, u16, u17, u18, .ref k19, .ref k20, .ref k21, .ref k22, .ref k23, u24, .ref k25, .ref k26, .ref k27, u28, u29, .ref k30, .ref k31, u32, .ref k33, u34, u35, .ref k36, .ref k37, .ref k38, .ref k39]), (k21, eI (ty 0) 1000 (fun _ => 0))] [(k0, eI (ty 0) 1875 kf)] [0, 2] [1] := ⟨rfl, rfl, rfl, rfl, by decide⟩
    refine cont_I C hP hD hS ct_2 (run_V (As := [.int (nI (9 * b)), .int 0]) (rest := []) C hP hD hS ct_2 (c_monw l D ty h0 k0 k1 k2 k3 k5 k19 k20 k21 k22 k23 k25 k26 k27 k30 k31 k33 k36 k37 k38 k39 u4 u6 u7 u8 u9 u10 u11 u12 u13 u14 u15 u16 u17 u18 u24 u28 u29 u32 u34 u35 b 0 hbd) kV_PinchedBillModel_394 0 rfl rfl rfl rfl hl.1 rfl (nle rfl) d_X9_goesOn_20 ⟨by decide, by decide, by decide, by decide⟩) (fun r_4 w_5 H locs hw_3 hP hD hS => ?_)
    obtain ⟨rfl, rfl⟩ := hw_3
    have hP : va_P D vwCl [(k0, eI (ty 0) 1875 kf), (h0, eO 9 [.ref k0, .ref k1, .ref k2, .ref k3, u4, .ref k5, u6, u7, u8, u9, u10, u11, u12, u13, u14, u15, u16, u17, u18, .ref k19, .ref k20, .ref k21, .ref k22, .ref k23, u24, .ref k25, .ref k26, .ref k27, u28, u29, .ref k30, .ref k31, u32, .ref k33, u34, u35, .ref k36, .ref k37, .ref k38, .ref k39]), (k21, eI (ty 0) 1000 (fun _ => 0))] H := hP
    have hD : va_D A [(k0, eI (ty 0) 1875 kf), (h0, eO 9 [.ref k0, .ref k1, .ref k2, .ref k3, u4, .ref k5, u6, u7, u8, u9, u10, u11, u12, u13, u14, u15, u16, u17, u18, .ref k19, .ref k20, .ref k21, .ref k22, .ref k23, u24, .ref k25, .ref k26, .ref k27, u28, u29, .ref k30, .ref k31, u32, .ref k33, u34, u35, .ref k36, .ref k37, .ref k38, .ref k39]), (k21, eI (ty 0) 1000 (fun _ => 0))] := hD
    refine lv_istore (lv' := [(5, .int (-1)), (4, .int 0), (3, .int (nI (9 * b))), (0, .ref h0), (1, .int (nI (9 * b))), (2, .int n)]) hx hb d_X9_goesOn_23 hl (by decide) rfl (fun ls hl => ?_)
    refine lv_iload hx hb d_X9_goesOn_25 (lv_at hl 0 rfl) ?_
    refine lv_iconst (v := (-1)) hx hb d_X9_goesOn_27 (by decide) ?_
    refine b_icmp_neF C 33 d_X9_goesOn_28 (by decide) (by decide) ?_
    refine lv_iload_n hx hb d_X9_goesOn_31 rfl (lv_at hl 2 rfl) ?_
    exact ret_I (w := [(h0, eO 9 [.ref k0, .ref k1, .ref k2, .ref k3, u4, .ref k5, u6, u7, u8, u9, u10, u11, u12, u13, u14, u15, u16, u17, u18, .ref k19, .ref k20, .ref k21, .ref k22, .ref k23, u24, .ref k25, .ref k26, .ref k27, u28, u29, .ref k30, .ref k31, u32, .ref k33, u34, u35, .ref k36, .ref k37, .ref k38, .ref k39]), (k0, eI (ty 0) 1875 kf), (k21, eI (ty 0) 1000 (fun _ => 0))]) C hP hD hS [1, 0, 2] rfl rfl ⟨rfl, rfl⟩ (by decide) (by decide) d_X9_goesOn_32
set_option maxHeartbeats 4000000 in
set_option maxRecDepth 100000 in
theorem c_mbillIn (l : Launch) (D : va_G) (ty : Nat → ClassId) (h0 : Nat) (k0 : Nat) (k1 : Nat) (k2 : Nat) (k3 : Nat) (k5 : Nat) (k19 : Nat) (k20 : Nat) (k21 : Nat) (k22 : Nat) (k23 : Nat) (k25 : Nat) (k26 : Nat) (k27 : Nat) (k30 : Nat) (k31 : Nat) (k33 : Nat) (k36 : Nat) (k37 : Nat) (k38 : Nat) (k39 : Nat) (u4 : Value) (u6 : Value) (u7 : Value) (u8 : Value) (u9 : Value) (u10 : Value) (u11 : Value) (u12 : Value) (u13 : Value) (u14 : Value) (u15 : Value) (u16 : Value) (u17 : Value) (u18 : Value) (u24 : Value) (u28 : Value) (u29 : Value) (u32 : Value) (u34 : Value) (u35 : Value) (kf : Nat → Int32) (b : Nat) (n : Int32) (hkf : KF kf) (hbd : b < 1000) : CC l D ty ⟨"PinchedBillModel", "billIn", "(II)I"⟩ prog_11_method_90_code 3 (some .int) 3 74 0 0 [.ref h0, .int (nI b), .int n] [(h0, eO 9 [.ref k0, .ref k1, .ref k2, .ref k3, u4, .ref k5, u6, u7, u8, u9, u10, u11, u12, u13, u14, u15, u16, u17, u18, .ref k19, .ref k20, .ref k21, .ref k22, .ref k23, u24, .ref k25, .ref k26, .ref k27, u28, u29, .ref k30, .ref k31, u32, .ref k33, u34, u35, .ref k36, .ref k37, .ref k38, .ref k39]), (k0, eI (ty 0) 1875 kf), (k21, eI (ty 0) 1000 (fun _ => 0))] (QI D ty (fun (r : Int32) (w : va_W) => (nI b) = r ∧ w = [(h0, eO 9 [.ref k0, .ref k1, .ref k2, .ref k3, u4, .ref k5, u6, u7, u8, u9, u10, u11, u12, u13, u14, u15, u16, u17, u18, .ref k19, .ref k20, .ref k21, .ref k22, .ref k23, u24, .ref k25, .ref k26, .ref k27, u28, u29, .ref k30, .ref k31, u32, .ref k33, u34, u35, .ref k36, .ref k37, .ref k38, .ref k39]), (k0, eI (ty 0) 1875 kf), (k21, eI (ty 0) 1000 (fun _ => 0))])) := by
  refine CC_of (by decide) ?_
  intro p e s m below meth c A C hP hD hS
  obtain ⟨⟨hx, hb, hml, hown, hts⟩, hr, hlocks, hnm, hK, hE, hA, hZ⟩ := id C
  refine startW [.ref h0, .int (nI b), .int n] 3 (nle rfl) (lv := [(0, .ref h0), (1, .int (nI b)), (2, .int n)]) rfl (fun ls hl => ?_)
  refine lv_aload_n hx hb d_X9_billIn_0 rfl (lv_at hl 0 rfl) ?_
  refine lv_iload_n hx hb d_X9_billIn_1 rfl (lv_at hl 1 rfl) ?_
  refine lv_iconst (v := (-1)) hx hb d_X9_billIn_2 (by decide) ?_
  have ct_1 : Cut [(h0, eO 9 [.ref k0, .ref k1, .ref k2, .ref k3, u4, .ref k5, u6, u7, u8, u9, u10, u11, u12, u13, u14, u15, u16, u17, u18, .ref k19, .ref k20, .ref k21, .ref k22, .ref k23, u24, .ref k25, .ref k26, .ref k27, u28, u29, .ref k30, .ref k31, u32, .ref k33, u34, u35, .ref k36, .ref k37, .ref k38, .ref k39]), (k0, eI (ty 0) 1875 kf), (k21, eI (ty 0) 1000 (fun _ => 0))] [] [(h0, eO 9 [.ref k0, .ref k1, .ref k2, .ref k3, u4, .ref k5, u6, u7, u8, u9, u10, u11, u12, u13, u14, u15, u16, u17, u18, .ref k19, .ref k20, .ref k21, .ref k22, .ref k23, u24, .ref k25, .ref k26, .ref k27, u28, u29, .ref k30, .ref k31, u32, .ref k33, u34, u35, .ref k36, .ref k37, .ref k38, .ref k39]), (k0, eI (ty 0) 1875 kf), (k21, eI (ty 0) 1000 (fun _ => 0))] [] [0, 1, 2] := ⟨rfl, rfl, rfl, rfl, by decide⟩
  refine cont_I C hP hD hS ct_1 (run_S (As := [.int (nI b), .int (-1)]) (rest := [.ref h0]) C hP hD hS ct_1 (c_mst l D ty b hbd) kS_PinchedBillModel_391 rfl hl.1 rfl (nle rfl) d_X9_billIn_3 ⟨by decide, by decide, by decide, by decide⟩) (fun r_3 w_4 H locs hw_2 hP hD hS => ?_)
  obtain ⟨rfl, rfl⟩ := hw_2
  have hP : va_P D vwCl [(h0, eO 9 [.ref k0, .ref k1, .ref k2, .ref k3, u4, .ref k5, u6, u7, u8, u9, u10, u11, u12, u13, u14, u15, u16, u17, u18, .ref k19, .ref k20, .ref k21, .ref k22, .ref k23, u24, .ref k25, .ref k26, .ref k27, u28, u29, .ref k30, .ref k31, u32, .ref k33, u34, u35, .ref k36, .ref k37, .ref k38, .ref k39]), (k0, eI (ty 0) 1875 kf), (k21, eI (ty 0) 1000 (fun _ => 0))] H := hP
  have hD : va_D A [(h0, eO 9 [.ref k0, .ref k1, .ref k2, .ref k3, u4, .ref k5, u6, u7, u8, u9, u10, u11, u12, u13, u14, u15, u16, u17, u18, .ref k19, .ref k20, .ref k21, .ref k22, .ref k23, u24, .ref k25, .ref k26, .ref k27, u28, u29, .ref k30, .ref k31, u32, .ref k33, u34, u35, .ref k36, .ref k37, .ref k38, .ref k39]), (k0, eI (ty 0) 1875 kf), (k21, eI (ty 0) 1000 (fun _ => 0))] := hD
  refine lv_iload_n hx hb d_X9_billIn_6 rfl (lv_at hl 2 rfl) ?_
  have ct_5 : Cut [(h0, eO 9 [.ref k0, .ref k1, .ref k2, .ref k3, u4, .ref k5, u6, u7, u8, u9, u10, u11, u12, u13, u14, u15, u16, u17, u18, .ref k19, .ref k20, .ref k21, .ref k22, .ref k23, u24, .ref k25, .ref k26, .ref k27, u28, u29, .ref k30, .ref k31, u32, .ref k33, u34, u35, .ref k36, .ref k37, .ref k38, .ref k39]), (k0, eI (ty 0) 1875 kf), (k21, eI (ty 0) 1000 (fun _ => 0))] [(h0, eO 9 [.ref k0, .ref k1, .ref k2, .ref k3, u4, .ref k5, u6, u7, u8, u9, u10, u11, u12, u13, u14, u15, u16, u17, u18, .ref k19, .ref k20, .ref k21, .ref k22, .ref k23, u24, .ref k25, .ref k26, .ref k27, u28, u29, .ref k30, .ref k31, u32, .ref k33, u34, u35, .ref k36, .ref k37, .ref k38, .ref k39]), (k0, eI (ty 0) 1875 kf), (k21, eI (ty 0) 1000 (fun _ => 0))] [] [0, 1, 2] [] := ⟨rfl, rfl, rfl, rfl, by decide⟩
  refine cont_I C hP hD hS ct_5 (run_V (As := [.int (nI (9 * b)), .int n]) (rest := []) C hP hD hS ct_5 (c_mgoesOn l D ty h0 k0 k1 k2 k3 k5 k19 k20 k21 k22 k23 k25 k26 k27 k30 k31 k33 k36 k37 k38 k39 u4 u6 u7 u8 u9 u10 u11 u12 u13 u14 u15 u16 u17 u18 u24 u28 u29 u32 u34 u35 kf b n hkf hbd) kV_PinchedBillModel_409 0 rfl rfl rfl rfl hl.1 rfl (nle rfl) d_X9_billIn_7 ⟨by decide, by decide, by decide, by decide⟩) (fun r_7 w_8 H locs hw_6 hP hD hS => ?_)
  obtain ⟨rfl, rfl⟩ := hw_6
  have hP : va_P D vwCl [(h0, eO 9 [.ref k0, .ref k1, .ref k2, .ref k3, u4, .ref k5, u6, u7, u8, u9, u10, u11, u12, u13, u14, u15, u16, u17, u18, .ref k19, .ref k20, .ref k21, .ref k22, .ref k23, u24, .ref k25, .ref k26, .ref k27, u28, u29, .ref k30, .ref k31, u32, .ref k33, u34, u35, .ref k36, .ref k37, .ref k38, .ref k39]), (k0, eI (ty 0) 1875 kf), (k21, eI (ty 0) 1000 (fun _ => 0))] H := hP
  have hD : va_D A [(h0, eO 9 [.ref k0, .ref k1, .ref k2, .ref k3, u4, .ref k5, u6, u7, u8, u9, u10, u11, u12, u13, u14, u15, u16, u17, u18, .ref k19, .ref k20, .ref k21, .ref k22, .ref k23, u24, .ref k25, .ref k26, .ref k27, u28, u29, .ref k30, .ref k31, u32, .ref k33, u34, u35, .ref k36, .ref k37, .ref k38, .ref k39]), (k0, eI (ty 0) 1875 kf), (k21, eI (ty 0) 1000 (fun _ => 0))] := hD
  refine lv_bipush (v := 9) hx hb d_X9_billIn_10 (by decide) ?_
  refine r_idiv (z := (nI ((9 * b) / 9))) C d_X9_billIn_12 (by decide) (a_div (9 * b) 9 ((9 * b) / 9) rfl rfl (by omega) (by omega) (by omega) rfl) ?_
  exact ret_I (w := [(h0, eO 9 [.ref k0, .ref k1, .ref k2, .ref k3, u4, .ref k5, u6, u7, u8, u9, u10, u11, u12, u13, u14, u15, u16, u17, u18, .ref k19, .ref k20, .ref k21, .ref k22, .ref k23, u24, .ref k25, .ref k26, .ref k27, u28, u29, .ref k30, .ref k31, u32, .ref k33, u34, u35, .ref k36, .ref k37, .ref k38, .ref k39]), (k0, eI (ty 0) 1875 kf), (k21, eI (ty 0) 1000 (fun _ => 0))]) C hP hD hS [0, 1, 2] rfl rfl ⟨(Eq.symm (by congr 1; omega)), rfl⟩ (by decide) (by decide) d_X9_billIn_13
set_option maxHeartbeats 4000000 in
set_option maxRecDepth 100000 in
theorem c_mfarT (l : Launch) (D : va_G) (ty : Nat → ClassId) (n : Int32) (hn : ¬ n < 0 ∧ ¬ 9999 < n) : CC l D ty ⟨"PinchedBillModel", "isFar", "(I)Z"⟩ prog_11_method_91_code 1 (some .boolean) 1 25 0 0 [.int n] [] (QI D ty (fun (r : Int32) (w : va_W) => 1 = r ∧ w = [])) := by
  refine CC_of (by decide) ?_
  intro p e s m below meth c A C hP hD hS
  obtain ⟨⟨hx, hb, hml, hown, hts⟩, hr, hlocks, hnm, hK, hE, hA, hZ⟩ := id C
  refine startW [.int n] 1 (nle rfl) (lv := [(0, .int n)]) rfl (fun ls hl => ?_)
  refine lv_iload_n hx hb d_X9_isFar_0 rfl (lv_at hl 0 rfl) ?_
  refine lv_i2l (v := (n).toInt64) hx hb d_X9_isFar_1 rfl ?_
  refine lv_lconst (v := 0) hx hb d_X9_isFar_2 (by decide) ?_
  refine lv_ldc2 hx hb hown (hts _ k_1986) d_X9_isFar_3 ?_
  have ct_1 : Cut [] [] [] [] [] := ⟨rfl, rfl, rfl, rfl, by decide⟩
  refine cont_I C hP hD hS ct_1 (run_S (As := [.long (n).toInt64, .long 0, .long 9999]) (rest := []) C hP hD hS ct_1 (c_mwi l D ty ((n).toInt64) 0 9999) kS_PinchedBillModel_140 rfl hl.1 rfl (nle rfl) d_X9_isFar_6 ⟨by decide, by decide, by decide, by decide⟩) (fun r_3 w_4 H locs hw_2 hP hD hS => ?_)
  obtain ⟨rfl, rfl⟩ := hw_2
  have hP : va_P D vwCl [] H := hP
  have hD : va_D A [] := hD
  refine topeq (z := 1) (wiP (n := n) (lo := 0) (hi := 9999) rfl rfl rfl hn) ?_
  exact ret_Z (w := []) C rfl hP hD hS [] rfl rfl ⟨rfl, rfl⟩ (by decide) (by decide) d_X9_isFar_9
set_option maxHeartbeats 4000000 in
set_option maxRecDepth 100000 in
theorem c_mfarF (l : Launch) (D : va_G) (ty : Nat → ClassId) (n : Int32) (hn : ¬ (¬ n < 0 ∧ ¬ 9999 < n)) : CC l D ty ⟨"PinchedBillModel", "isFar", "(I)Z"⟩ prog_11_method_91_code 1 (some .boolean) 1 25 0 0 [.int n] [] (QI D ty (fun (r : Int32) (w : va_W) => 0 = r ∧ w = [])) := by
  refine CC_of (by decide) ?_
  intro p e s m below meth c A C hP hD hS
  obtain ⟨⟨hx, hb, hml, hown, hts⟩, hr, hlocks, hnm, hK, hE, hA, hZ⟩ := id C
  refine startW [.int n] 1 (nle rfl) (lv := [(0, .int n)]) rfl (fun ls hl => ?_)
  refine lv_iload_n hx hb d_X9_isFar_0 rfl (lv_at hl 0 rfl) ?_
  refine lv_i2l (v := (n).toInt64) hx hb d_X9_isFar_1 rfl ?_
  refine lv_lconst (v := 0) hx hb d_X9_isFar_2 (by decide) ?_
  refine lv_ldc2 hx hb hown (hts _ k_1986) d_X9_isFar_3 ?_
  have ct_1 : Cut [] [] [] [] [] := ⟨rfl, rfl, rfl, rfl, by decide⟩
  refine cont_I C hP hD hS ct_1 (run_S (As := [.long (n).toInt64, .long 0, .long 9999]) (rest := []) C hP hD hS ct_1 (c_mwi l D ty ((n).toInt64) 0 9999) kS_PinchedBillModel_140 rfl hl.1 rfl (nle rfl) d_X9_isFar_6 ⟨by decide, by decide, by decide, by decide⟩) (fun r_3 w_4 H locs hw_2 hP hD hS => ?_)
  obtain ⟨rfl, rfl⟩ := hw_2
  have hP : va_P D vwCl [] H := hP
  have hD : va_D A [] := hD
  refine topeq (z := 0) (wiQ (n := n) (lo := 0) (hi := 9999) rfl rfl rfl hn) ?_
  exact ret_Z (w := []) C rfl hP hD hS [] rfl rfl ⟨rfl, rfl⟩ (by decide) (by decide) d_X9_isFar_9
set_option maxHeartbeats 4000000 in
set_option maxRecDepth 100000 in
theorem c_mfarN (l : Launch) (D : va_G) (ty : Nat → ClassId) (na : Nat) (hna : na < 10000) : CC l D ty ⟨"PinchedBillModel", "isFar", "(I)Z"⟩ prog_11_method_91_code 1 (some .boolean) 1 25 0 0 [.int (nI na)] [] (QI D ty (fun (r : Int32) (w : va_W) => 1 = r ∧ w = [])) := by
  refine CC_of (by decide) ?_
  intro p e s m below meth c A C hP hD hS
  obtain ⟨⟨hx, hb, hml, hown, hts⟩, hr, hlocks, hnm, hK, hE, hA, hZ⟩ := id C
  refine startW [.int (nI na)] 1 (nle rfl) (lv := [(0, .int (nI na))]) rfl (fun ls hl => ?_)
  refine lv_iload_n hx hb d_X9_isFar_0 rfl (lv_at hl 0 rfl) ?_
  refine lv_i2l (v := (lN na)) hx hb d_X9_isFar_1 (nI_l (by omega)) ?_
  refine lv_lconst (v := 0) hx hb d_X9_isFar_2 (by decide) ?_
  refine lv_ldc2 hx hb hown (hts _ k_1986) d_X9_isFar_3 ?_
  have ct_1 : Cut [] [] [] [] [] := ⟨rfl, rfl, rfl, rfl, by decide⟩
  refine cont_I C hP hD hS ct_1 (run_S (As := [.long (lN na), .long 0, .long 9999]) (rest := []) C hP hD hS ct_1 (c_mwi l D ty (lN na) 0 9999) kS_PinchedBillModel_140 rfl hl.1 rfl (nle rfl) d_X9_isFar_6 ⟨by decide, by decide, by decide, by decide⟩) (fun r_3 w_4 H locs hw_2 hP hD hS => ?_)
  obtain ⟨rfl, rfl⟩ := hw_2
  have hP : va_P D vwCl [] H := hP
  have hD : va_D A [] := hD
  refine topeq (z := 1) (wiN_1 (na) 0 9999 rfl rfl rfl (by omega) (by omega) (by omega)) ?_
  exact ret_Z (w := []) C rfl hP hD hS [] rfl rfl ⟨rfl, rfl⟩ (by decide) (by decide) d_X9_isFar_9
set_option maxHeartbeats 4000000 in
set_option maxRecDepth 100000 in
theorem c_mring (l : Launch) (D : va_G) (ty : Nat → ClassId) (h0 : Nat) (k0 : Nat) (k1 : Nat) (k2 : Nat) (k3 : Nat) (k5 : Nat) (k19 : Nat) (k20 : Nat) (k21 : Nat) (k22 : Nat) (k23 : Nat) (k25 : Nat) (k26 : Nat) (k27 : Nat) (k30 : Nat) (k31 : Nat) (k33 : Nat) (k36 : Nat) (k37 : Nat) (k38 : Nat) (k39 : Nat) (u4 : Value) (u6 : Value) (u7 : Value) (u8 : Value) (u9 : Value) (u10 : Value) (u11 : Value) (u12 : Value) (u13 : Value) (u14 : Value) (u15 : Value) (u16 : Value) (u17 : Value) (u18 : Value) (u24 : Value) (u28 : Value) (u29 : Value) (u32 : Value) (u34 : Value) (u35 : Value) (kf : Nat → Int32) (en : Nat → Int32) (b : Nat) (hkf : KF kf) (hbd : b < 1000) : CC l D ty ⟨"PinchedBillModel", "laysRing", "(I)Z"⟩ prog_11_method_93_code 4 (some .boolean) 2 49 0 0 [.ref h0, .int (nI b)] [(h0, eO 9 [.ref k0, .ref k1, .ref k2, .ref k3, u4, .ref k5, u6, u7, u8, u9, u10, u11, u12, u13, u14, u15, u16, u17, u18, .ref k19, .ref k20, .ref k21, .ref k22, .ref k23, u24, .ref k25, .ref k26, .ref k27, u28, u29, .ref k30, .ref k31, u32, .ref k33, u34, u35, .ref k36, .ref k37, .ref k38, .ref k39]), (k0, eI (ty 0) 1875 kf), (k21, eI (ty 0) 1000 (fun _ => 0)), (k25, eI (ty 0) 9000 en)] (QI D ty (fun (r : Int32) (w : va_W) => 0 = r ∧ w = [(h0, eO 9 [.ref k0, .ref k1, .ref k2, .ref k3, u4, .ref k5, u6, u7, u8, u9, u10, u11, u12, u13, u14, u15, u16, u17, u18, .ref k19, .ref k20, .ref k21, .ref k22, .ref k23, u24, .ref k25, .ref k26, .ref k27, .int 0, .int 0, .ref k30, .ref k31, u32, .ref k33, u34, u35, .ref k36, .ref k37, .ref k38, .ref k39]), (k0, eI (ty 0) 1875 kf), (k21, eI (ty 0) 1000 (fun _ => 0))])) := by
  refine CC_of (by decide) ?_
  intro p e s m below meth c A C hP hD hS
  obtain ⟨⟨hx, hb, hml, hown, hts⟩, hr, hlocks, hnm, hK, hE, hA, hZ⟩ := id C
  refine startW [.ref h0, .int (nI b)] 4 (nle rfl) (lv := [(0, .ref h0), (1, .int (nI b))]) rfl (fun ls hl => ?_)
  refine lv_aload_n hx hb d_X9_laysRing_0 rfl (lv_at hl 0 rfl) ?_
  have ct_1 : Cut [(h0, eO 9 [.ref k0, .ref k1, .ref k2, .ref k3, u4, .ref k5, u6, u7, u8, u9, u10, u11, u12, u13, u14, u15, u16, u17, u18, .ref k19, .ref k20, .ref k21, .ref k22, .ref k23, u24, .ref k25, .ref k26, .ref k27, u28, u29, .ref k30, .ref k31, u32, .ref k33, u34, u35, .ref k36, .ref k37, .ref k38, .ref k39]), (k0, eI (ty 0) 1875 kf), (k21, eI (ty 0) 1000 (fun _ => 0)), (k25, eI (ty 0) 9000 en)] [(h0, eO 9 [.ref k0, .ref k1, .ref k2, .ref k3, u4, .ref k5, u6, u7, u8, u9, u10, u11, u12, u13, u14, u15, u16, u17, u18, .ref k19, .ref k20, .ref k21, .ref k22, .ref k23, u24, .ref k25, .ref k26, .ref k27, u28, u29, .ref k30, .ref k31, u32, .ref k33, u34, u35, .ref k36, .ref k37, .ref k38, .ref k39]), (k25, eI (ty 0) 9000 en)] [(k0, eI (ty 0) 1875 kf), (k21, eI (ty 0) 1000 (fun _ => 0))] [0, 3] [1, 2] := ⟨rfl, rfl, rfl, rfl, by decide⟩
  refine cont_V C hP hD hS ct_1 (run_V (As := []) (rest := []) C hP hD hS ct_1 (c_mforg l D ty h0 k0 k1 k2 k3 k5 k19 k20 k21 k22 k23 k25 k26 k27 k30 k31 k33 k36 k37 k38 k39 u4 u6 u7 u8 u9 u10 u11 u12 u13 u14 u15 u16 u17 u18 u24 u28 u29 u32 u34 u35 en) kV_PinchedBillModel_397 0 rfl rfl rfl rfl hl.1 rfl (nle rfl) d_X9_laysRing_1 ⟨by decide, by decide, by decide, by decide⟩) (fun w_5 H locs hw_3 hP hD hS => ?_)
  obtain ⟨e9_2, he9_6, rfl⟩ := hw_3
  have hP : va_P D vwCl [(k0, eI (ty 0) 1875 kf), (k21, eI (ty 0) 1000 (fun _ => 0)), (h0, eO 9 [.ref k0, .ref k1, .ref k2, .ref k3, u4, .ref k5, u6, u7, u8, u9, u10, u11, u12, u13, u14, u15, u16, u17, u18, .ref k19, .ref k20, .ref k21, .ref k22, .ref k23, u24, .ref k25, .ref k26, .ref k27, u28, u29, .ref k30, .ref k31, u32, .ref k33, u34, u35, .ref k36, .ref k37, .ref k38, .ref k39]), (k25, eI (ty 0) 9000 e9_2)] H := hP
  have hD : va_D A [(k0, eI (ty 0) 1875 kf), (k21, eI (ty 0) 1000 (fun _ => 0)), (h0, eO 9 [.ref k0, .ref k1, .ref k2, .ref k3, u4, .ref k5, u6, u7, u8, u9, u10, u11, u12, u13, u14, u15, u16, u17, u18, .ref k19, .ref k20, .ref k21, .ref k22, .ref k23, u24, .ref k25, .ref k26, .ref k27, u28, u29, .ref k30, .ref k31, u32, .ref k33, u34, u35, .ref k36, .ref k37, .ref k38, .ref k39]), (k25, eI (ty 0) 9000 e9_2)] := hD
  refine lv_iload_n hx hb d_X9_laysRing_4 rfl (lv_at hl 1 rfl) ?_
  refine lv_iconst (v := (-1)) hx hb d_X9_laysRing_5 (by decide) ?_
  have ct_7 : Cut [(k0, eI (ty 0) 1875 kf), (k21, eI (ty 0) 1000 (fun _ => 0)), (h0, eO 9 [.ref k0, .ref k1, .ref k2, .ref k3, u4, .ref k5, u6, u7, u8, u9, u10, u11, u12, u13, u14, u15, u16, u17, u18, .ref k19, .ref k20, .ref k21, .ref k22, .ref k23, u24, .ref k25, .ref k26, .ref k27, u28, u29, .ref k30, .ref k31, u32, .ref k33, u34, u35, .ref k36, .ref k37, .ref k38, .ref k39]), (k25, eI (ty 0) 9000 e9_2)] [] [(k0, eI (ty 0) 1875 kf), (k21, eI (ty 0) 1000 (fun _ => 0)), (h0, eO 9 [.ref k0, .ref k1, .ref k2, .ref k3, u4, .ref k5, u6, u7, u8, u9, u10, u11, u12, u13, u14, u15, u16, u17, u18, .ref k19, .ref k20, .ref k21, .ref k22, .ref k23, u24, .ref k25, .ref k26, .ref k27, u28, u29, .ref k30, .ref k31, u32, .ref k33, u34, u35, .ref k36, .ref k37, .ref k38, .ref k39]), (k25, eI (ty 0) 9000 e9_2)] [] [0, 1, 2, 3] := ⟨rfl, rfl, rfl, rfl, by decide⟩
  refine cont_I C hP hD hS ct_7 (run_S (As := [.int (nI b), .int (-1)]) (rest := []) C hP hD hS ct_7 (c_mst l D ty b hbd) kS_PinchedBillModel_391 rfl hl.1 rfl (nle rfl) d_X9_laysRing_6 ⟨by decide, by decide, by decide, by decide⟩) (fun r_9 w_10 H locs hw_8 hP hD hS => ?_)
  obtain ⟨rfl, rfl⟩ := hw_8
  have hP : va_P D vwCl [(k0, eI (ty 0) 1875 kf), (k21, eI (ty 0) 1000 (fun _ => 0)), (h0, eO 9 [.ref k0, .ref k1, .ref k2, .ref k3, u4, .ref k5, u6, u7, u8, u9, u10, u11, u12, u13, u14, u15, u16, u17, u18, .ref k19, .ref k20, .ref k21, .ref k22, .ref k23, u24, .ref k25, .ref k26, .ref k27, u28, u29, .ref k30, .ref k31, u32, .ref k33, u34, u35, .ref k36, .ref k37, .ref k38, .ref k39]), (k25, eI (ty 0) 9000 e9_2)] H := hP
  have hD : va_D A [(k0, eI (ty 0) 1875 kf), (k21, eI (ty 0) 1000 (fun _ => 0)), (h0, eO 9 [.ref k0, .ref k1, .ref k2, .ref k3, u4, .ref k5, u6, u7, u8, u9, u10, u11, u12, u13, u14, u15, u16, u17, u18, .ref k19, .ref k20, .ref k21, .ref k22, .ref k23, u24, .ref k25, .ref k26, .ref k27, u28, u29, .ref k30, .ref k31, u32, .ref k33, u34, u35, .ref k36, .ref k37, .ref k38, .ref k39]), (k25, eI (ty 0) 9000 e9_2)] := hD
  refine lv_istore_n (lv' := [(2, .int (nI (9 * b))), (0, .ref h0), (1, .int (nI b))]) hx hb d_X9_laysRing_9 rfl hl (by decide) rfl (fun ls hl => ?_)
  refine lv_iconst (v := 0) hx hb d_X9_laysRing_10 (by decide) ?_
  refine lv_istore_n (lv' := [(3, .int 0), (2, .int (nI (9 * b))), (0, .ref h0), (1, .int (nI b))]) hx hb d_X9_laysRing_11 rfl hl (by decide) rfl (fun ls hl => ?_)
  refine lv_iload_n hx hb d_X9_laysRing_12 rfl (lv_at hl 1 rfl) ?_
  refine lv_iconst (v := (-1)) hx hb d_X9_laysRing_13 (by decide) ?_
  refine b_icmp_eqF C 54 d_X9_laysRing_14 (by decide) (n_neneg (9 * b) rfl (by omega) (by decide)) ?_
  refine lv_aload_n hx hb d_X9_laysRing_17 rfl (lv_at hl 2 rfl) ?_
  refine r_get (v := .ref k25) C hP 2 rfl rfl lay_X9 25 (by decide) k_1570 rfl d_X9_laysRing_18 ?_
  refine lv_iload_n hx hb d_X9_laysRing_21 rfl (lv_at hl 1 rfl) ?_
  refine r_iald (v := (-2)) C hP 3 rfl (9 * b) rfl (by omega) (by decide) (he9_6 _ (by omega)) d_X9_laysRing_22 ?_
  refine lv_bipush (v := (-2)) hx hb d_X9_laysRing_23 (by decide) ?_
  refine b_icmp_neF C 54 d_X9_laysRing_25 (by decide) (by decide) ?_
  refine lv_aload_n hx hb d_X9_laysRing_28 rfl (lv_at hl 2 rfl) ?_
  refine r_get (v := .ref k25) C hP 2 rfl rfl lay_X9 25 (by decide) k_1570 rfl d_X9_laysRing_29 ?_
  refine lv_iload_n hx hb d_X9_laysRing_32 rfl (lv_at hl 1 rfl) ?_
  refine lv_iload_n hx hb d_X9_laysRing_33 rfl (lv_at hl 0 rfl) ?_
  refine r_iast (w := [(k0, eI (ty 0) 1875 kf), (k21, eI (ty 0) 1000 (fun _ => 0)), (h0, eO 9 [.ref k0, .ref k1, .ref k2, .ref k3, u4, .ref k5, u6, u7, u8, u9, u10, u11, u12, u13, u14, u15, u16, u17, u18, .ref k19, .ref k20, .ref k21, .ref k22, .ref k23, u24, .ref k25, .ref k26, .ref k27, u28, u29, .ref k30, .ref k31, u32, .ref k33, u34, u35, .ref k36, .ref k37, .ref k38, .ref k39]), (k25, eI (ty 0) 9000 (upd e9_2 (9 * b) 0))]) C hP hD hS 3 rfl (9 * b) rfl (by omega) (by decide) rfl d_X9_laysRing_34 (fun H locs hP hD hS => ?_)
  refine lv_iinc (v := 1) (lv' := [(3, .int 1), (2, .int (nI (9 * b))), (0, .ref h0), (1, .int (nI b))]) (k := 0) hx hb d_X9_laysRing_35 hl rfl (by decide) (by decide) rfl (fun ls hl => ?_)
  refine lv_aload_n hx hb d_X9_laysRing_38 rfl (lv_at hl 2 rfl) ?_
  refine lv_iload_n hx hb d_X9_laysRing_39 rfl (lv_at hl 1 rfl) ?_
  refine lv_aload_n hx hb d_X9_laysRing_40 rfl (lv_at hl 2 rfl) ?_
  refine r_get (v := .ref k0) C hP 2 rfl rfl lay_X9 0 (by decide) k_1545 rfl d_X9_laysRing_41 ?_
  refine lv_bipush (v := 8) hx hb d_X9_laysRing_44 (by decide) ?_
  refine r_iald (v := 0) C hP 0 rfl 8 rfl (by decide) (by decide) hkf.2.2 d_X9_laysRing_46 ?_
  have ct_11 : Cut [(k0, eI (ty 0) 1875 kf), (k21, eI (ty 0) 1000 (fun _ => 0)), (h0, eO 9 [.ref k0, .ref k1, .ref k2, .ref k3, u4, .ref k5, u6, u7, u8, u9, u10, u11, u12, u13, u14, u15, u16, u17, u18, .ref k19, .ref k20, .ref k21, .ref k22, .ref k23, u24, .ref k25, .ref k26, .ref k27, u28, u29, .ref k30, .ref k31, u32, .ref k33, u34, u35, .ref k36, .ref k37, .ref k38, .ref k39]), (k25, eI (ty 0) 9000 (upd e9_2 (9 * b) 0))] [(h0, eO 9 [.ref k0, .ref k1, .ref k2, .ref k3, u4, .ref k5, u6, u7, u8, u9, u10, u11, u12, u13, u14, u15, u16, u17, u18, .ref k19, .ref k20, .ref k21, .ref k22, .ref k23, u24, .ref k25, .ref k26, .ref k27, u28, u29, .ref k30, .ref k31, u32, .ref k33, u34, u35, .ref k36, .ref k37, .ref k38, .ref k39]), (k21, eI (ty 0) 1000 (fun _ => 0))] [(k0, eI (ty 0) 1875 kf), (k25, eI (ty 0) 9000 (upd e9_2 (9 * b) 0))] [2, 1] [0, 3] := ⟨rfl, rfl, rfl, rfl, by decide⟩
  refine cont_I C hP hD hS ct_11 (run_V (As := [.int (nI (9 * b)), .int 0]) (rest := []) C hP hD hS ct_11 (c_monw l D ty h0 k0 k1 k2 k3 k5 k19 k20 k21 k22 k23 k25 k26 k27 k30 k31 k33 k36 k37 k38 k39 u4 u6 u7 u8 u9 u10 u11 u12 u13 u14 u15 u16 u17 u18 u24 u28 u29 u32 u34 u35 b 0 hbd) kV_PinchedBillModel_394 2 rfl rfl rfl rfl hl.1 rfl (nle rfl) d_X9_laysRing_47 ⟨by decide, by decide, by decide, by decide⟩) (fun r_13 w_14 H locs hw_12 hP hD hS => ?_)
  obtain ⟨rfl, rfl⟩ := hw_12
  have hP : va_P D vwCl [(k0, eI (ty 0) 1875 kf), (k25, eI (ty 0) 9000 (upd e9_2 (9 * b) 0)), (h0, eO 9 [.ref k0, .ref k1, .ref k2, .ref k3, u4, .ref k5, u6, u7, u8, u9, u10, u11, u12, u13, u14, u15, u16, u17, u18, .ref k19, .ref k20, .ref k21, .ref k22, .ref k23, u24, .ref k25, .ref k26, .ref k27, u28, u29, .ref k30, .ref k31, u32, .ref k33, u34, u35, .ref k36, .ref k37, .ref k38, .ref k39]), (k21, eI (ty 0) 1000 (fun _ => 0))] H := hP
  have hD : va_D A [(k0, eI (ty 0) 1875 kf), (k25, eI (ty 0) 9000 (upd e9_2 (9 * b) 0)), (h0, eO 9 [.ref k0, .ref k1, .ref k2, .ref k3, u4, .ref k5, u6, u7, u8, u9, u10, u11, u12, u13, u14, u15, u16, u17, u18, .ref k19, .ref k20, .ref k21, .ref k22, .ref k23, u24, .ref k25, .ref k26, .ref k27, u28, u29, .ref k30, .ref k31, u32, .ref k33, u34, u35, .ref k36, .ref k37, .ref k38, .ref k39]), (k21, eI (ty 0) 1000 (fun _ => 0))] := hD
  refine lv_istore_n (lv' := [(2, .int (-1)), (3, .int 1), (0, .ref h0), (1, .int (nI b))]) hx hb d_X9_laysRing_50 rfl hl (by decide) rfl (fun ls hl => ?_)
  refine lv_goto (tgt := 12) hx hb d_X9_laysRing_51 (by decide) ?_
  refine lv_iload_n hx hb d_X9_laysRing_12 rfl (lv_at hl 0 rfl) ?_
  refine lv_iconst (v := (-1)) hx hb d_X9_laysRing_13 (by decide) ?_
  refine b_icmp_eqT C 54 d_X9_laysRing_14 (by decide) (by decide) ?_
  refine lv_iload_n hx hb d_X9_laysRing_54 rfl (lv_at hl 0 rfl) ?_
  refine lv_iconst (v := (-1)) hx hb d_X9_laysRing_55 (by decide) ?_
  refine b_icmp_neF C 73 d_X9_laysRing_56 (by decide) (by decide) ?_
  refine lv_aload_n hx hb d_X9_laysRing_59 rfl (lv_at hl 2 rfl) ?_
  refine lv_iload_n hx hb d_X9_laysRing_60 rfl (lv_at hl 1 rfl) ?_
  refine lv_iconst (v := 1) hx hb d_X9_laysRing_61 (by decide) ?_
  refine r_isub (z := 0) C d_X9_laysRing_62 (by decide) ?_
  refine r_put (w := [(k0, eI (ty 0) 1875 kf), (k25, eI (ty 0) 9000 (upd e9_2 (9 * b) 0)), (h0, eO 9 [.ref k0, .ref k1, .ref k2, .ref k3, u4, .ref k5, u6, u7, u8, u9, u10, u11, u12, u13, u14, u15, u16, u17, u18, .ref k19, .ref k20, .ref k21, .ref k22, .ref k23, u24, .ref k25, .ref k26, .ref k27, .int 0, u29, .ref k30, .ref k31, u32, .ref k33, u34, u35, .ref k36, .ref k37, .ref k38, .ref k39]), (k21, eI (ty 0) 1000 (fun _ => 0))]) C hP hD hS 2 rfl rfl lay_X9 tok_X9 nmo_X9 28 (by decide) k_1573 rfl rfl rfl (nle rfl) rfl d_X9_laysRing_63 (fun H locs hP hD hS => ?_)
  refine lv_aload_n hx hb d_X9_laysRing_66 rfl (lv_at hl 2 rfl) ?_
  refine lv_iconst (v := 0) hx hb d_X9_laysRing_67 (by decide) ?_
  refine r_put (w := [(k0, eI (ty 0) 1875 kf), (k25, eI (ty 0) 9000 (upd e9_2 (9 * b) 0)), (h0, eO 9 [.ref k0, .ref k1, .ref k2, .ref k3, u4, .ref k5, u6, u7, u8, u9, u10, u11, u12, u13, u14, u15, u16, u17, u18, .ref k19, .ref k20, .ref k21, .ref k22, .ref k23, u24, .ref k25, .ref k26, .ref k27, .int 0, .int 0, .ref k30, .ref k31, u32, .ref k33, u34, u35, .ref k36, .ref k37, .ref k38, .ref k39]), (k21, eI (ty 0) 1000 (fun _ => 0))]) C hP hD hS 2 rfl rfl lay_X9 tok_X9 nmo_X9 29 (by decide) k_1574 rfl rfl rfl (nle rfl) rfl d_X9_laysRing_68 (fun H locs hP hD hS => ?_)
  refine lv_iconst (v := 0) hx hb d_X9_laysRing_71 (by decide) ?_
  exact ret_Z (w := [(h0, eO 9 [.ref k0, .ref k1, .ref k2, .ref k3, u4, .ref k5, u6, u7, u8, u9, u10, u11, u12, u13, u14, u15, u16, u17, u18, .ref k19, .ref k20, .ref k21, .ref k22, .ref k23, u24, .ref k25, .ref k26, .ref k27, .int 0, .int 0, .ref k30, .ref k31, u32, .ref k33, u34, u35, .ref k36, .ref k37, .ref k38, .ref k39]), (k0, eI (ty 0) 1875 kf), (k21, eI (ty 0) 1000 (fun _ => 0))]) C rfl hP hD hS [2, 0, 3] rfl rfl ⟨rfl, rfl⟩ (by decide) (by decide) d_X9_laysRing_72
set_option maxHeartbeats 4000000 in
set_option maxRecDepth 100000 in
theorem c_misLaw (l : Launch) (D : va_G) (ty : Nat → ClassId) (h0 : Nat) (k0 : Nat) (k1 : Nat) (k2 : Nat) (k3 : Nat) (k5 : Nat) (k19 : Nat) (k20 : Nat) (k21 : Nat) (k22 : Nat) (k23 : Nat) (k25 : Nat) (k26 : Nat) (k27 : Nat) (k30 : Nat) (k31 : Nat) (k33 : Nat) (k36 : Nat) (k37 : Nat) (k38 : Nat) (k39 : Nat) (u4 : Value) (u6 : Value) (u7 : Value) (u8 : Value) (u9 : Value) (u10 : Value) (u11 : Value) (u12 : Value) (u13 : Value) (u14 : Value) (u15 : Value) (u16 : Value) (u17 : Value) (u18 : Value) (u24 : Value) (u28 : Value) (u29 : Value) (u32 : Value) (u34 : Value) (u35 : Value) (kf : Nat → Int32) (b : Nat) (hkf : KF kf) (hbd : b < 1000) : CC l D ty ⟨"PinchedBillModel", "isLaw", "(I)Z"⟩ prog_11_method_95_code 2 (some .boolean) 0 0 0 0 [.ref h0, .int (nI b)] [(h0, eO 9 [.ref k0, .ref k1, .ref k2, .ref k3, u4, .ref k5, u6, u7, u8, u9, u10, u11, u12, u13, u14, u15, u16, u17, u18, .ref k19, .ref k20, .ref k21, .ref k22, .ref k23, u24, .ref k25, .ref k26, .ref k27, u28, u29, .ref k30, .ref k31, u32, .ref k33, u34, u35, .ref k36, .ref k37, .ref k38, .ref k39]), (k0, eI (ty 0) 1875 kf), (k21, eI (ty 0) 1000 (fun _ => 0))] (QI D ty (fun (r : Int32) (w : va_W) => 1 = r ∧ w = [(h0, eO 9 [.ref k0, .ref k1, .ref k2, .ref k3, u4, .ref k5, u6, u7, u8, u9, u10, u11, u12, u13, u14, u15, u16, u17, u18, .ref k19, .ref k20, .ref k21, .ref k22, .ref k23, u24, .ref k25, .ref k26, .ref k27, u28, u29, .ref k30, .ref k31, u32, .ref k33, u34, u35, .ref k36, .ref k37, .ref k38, .ref k39]), (k0, eI (ty 0) 1875 kf), (k21, eI (ty 0) 1000 (fun _ => 0))])) := by
  refine CC_of (by decide) ?_
  intro p e s m below meth c A C hP hD hS
  obtain ⟨⟨hx, hb, hml, hown, hts⟩, hr, hlocks, hnm, hK, hE, hA, hZ⟩ := id C
  refine startW [.ref h0, .int (nI b)] 2 (nle rfl) (lv := [(0, .ref h0), (1, .int (nI b))]) rfl (fun ls hl => ?_)
  refine lv_aload_n hx hb d_X9_isLaw_0 rfl (lv_at hl 0 rfl) ?_
  refine r_get (v := .ref k21) C hP 0 rfl rfl lay_X9 21 (by decide) k_1566 rfl d_X9_isLaw_1 ?_
  refine lv_iload_n hx hb d_X9_isLaw_4 rfl (lv_at hl 1 rfl) ?_
  refine r_iald (v := 0) C hP 2 rfl b rfl (by omega) (by decide) rfl d_X9_isLaw_5 ?_
  refine lv_aload_n hx hb d_X9_isLaw_6 rfl (lv_at hl 0 rfl) ?_
  refine r_get (v := .ref k0) C hP 0 rfl rfl lay_X9 0 (by decide) k_1545 rfl d_X9_isLaw_7 ?_
  refine lv_bipush (v := 8) hx hb d_X9_isLaw_10 (by decide) ?_
  refine r_iald (v := 0) C hP 1 rfl 8 rfl (by decide) (by decide) hkf.2.2 d_X9_isLaw_12 ?_
  refine r_iand (z := 0) C d_X9_isLaw_13 (by decide) ?_
  refine b_if_neF C 21 d_X9_isLaw_14 (by decide) (by decide) ?_
  refine lv_iconst (v := 1) hx hb d_X9_isLaw_17 (by decide) ?_
  refine lv_goto (tgt := 22) hx hb d_X9_isLaw_18 (by decide) ?_
  exact ret_Z (w := [(h0, eO 9 [.ref k0, .ref k1, .ref k2, .ref k3, u4, .ref k5, u6, u7, u8, u9, u10, u11, u12, u13, u14, u15, u16, u17, u18, .ref k19, .ref k20, .ref k21, .ref k22, .ref k23, u24, .ref k25, .ref k26, .ref k27, u28, u29, .ref k30, .ref k31, u32, .ref k33, u34, u35, .ref k36, .ref k37, .ref k38, .ref k39]), (k0, eI (ty 0) 1875 kf), (k21, eI (ty 0) 1000 (fun _ => 0))]) C rfl hP hD hS [0, 1, 2] rfl rfl ⟨rfl, rfl⟩ (by decide) (by decide) d_X9_isLaw_22
set_option maxHeartbeats 4000000 in
set_option maxRecDepth 100000 in
theorem c_mfgH0 (l : Launch) (D : va_G) (ty : Nat → ClassId) (j : Nat) (hj : j < 10) : CC l D ty ⟨"PinchedBillModel", "figure", "(II)I"⟩ prog_11_method_42_code 2 (some .int) 1 20 0 0 [.int (nI (100 * j)), .int 0] [] (QI D ty (fun (r : Int32) (w : va_W) => (nI j) = r ∧ w = [])) := by
  refine CC_of (by decide) ?_
  intro p e s m below meth c A C hP hD hS
  obtain ⟨⟨hx, hb, hml, hown, hts⟩, hr, hlocks, hnm, hK, hE, hA, hZ⟩ := id C
  refine startW [.int (nI (100 * j)), .int 0] 2 (nle rfl) (lv := [(0, .int (nI (100 * j))), (1, .int 0)]) rfl (fun ls hl => ?_)
  refine lv_iload_n hx hb d_X9_figure_0 rfl (lv_at hl 0 rfl) ?_
  refine lv_iload_n hx hb d_X9_figure_1 rfl (lv_at hl 1 rfl) ?_
  have ct_1 : Cut [] [] [] [] [] := ⟨rfl, rfl, rfl, rfl, by decide⟩
  refine cont_I C hP hD hS ct_1 (run_S (As := [.int 0]) (rest := [.int (nI (100 * j))]) C hP hD hS ct_1 (c_mw0 l D ty) kS_PinchedBillModel_218 rfl hl.1 rfl (nle rfl) d_X9_figure_2 ⟨by decide, by decide, by decide, by decide⟩) (fun r_3 w_4 H locs hw_2 hP hD hS => ?_)
  obtain ⟨rfl, rfl⟩ := hw_2
  have hP : va_P D vwCl [] H := hP
  have hD : va_D A [] := hD
  refine r_idiv (z := (nI ((100 * j) / 100))) C d_X9_figure_5 (by decide) (a_div (100 * j) 100 ((100 * j) / 100) rfl rfl (by omega) (by omega) (by omega) rfl) ?_
  refine lv_bipush (v := 10) hx hb d_X9_figure_6 (by decide) ?_
  refine r_irem (z := (nI (((100 * j) / 100) % 10))) C d_X9_figure_8 (by decide) (a_rem ((100 * j) / 100) 10 (((100 * j) / 100) % 10) rfl rfl (by omega) (by omega) (by omega) rfl) ?_
  exact ret_I (w := []) C hP hD hS [] rfl rfl ⟨(Eq.symm (nIc (by omega))), rfl⟩ (by decide) (by decide) d_X9_figure_9
set_option maxHeartbeats 4000000 in
set_option maxRecDepth 100000 in
theorem c_mfgH1 (l : Launch) (D : va_G) (ty : Nat → ClassId) (j : Nat) (hj : j < 10) : CC l D ty ⟨"PinchedBillModel", "figure", "(II)I"⟩ prog_11_method_42_code 2 (some .int) 1 20 0 0 [.int (nI (100 * j)), .int 1] [] (QI D ty (fun (r : Int32) (w : va_W) => 0 = r ∧ w = [])) := by
  refine CC_of (by decide) ?_
  intro p e s m below meth c A C hP hD hS
  obtain ⟨⟨hx, hb, hml, hown, hts⟩, hr, hlocks, hnm, hK, hE, hA, hZ⟩ := id C
  refine startW [.int (nI (100 * j)), .int 1] 2 (nle rfl) (lv := [(0, .int (nI (100 * j))), (1, .int 1)]) rfl (fun ls hl => ?_)
  refine lv_iload_n hx hb d_X9_figure_0 rfl (lv_at hl 0 rfl) ?_
  refine lv_iload_n hx hb d_X9_figure_1 rfl (lv_at hl 1 rfl) ?_
  have ct_1 : Cut [] [] [] [] [] := ⟨rfl, rfl, rfl, rfl, by decide⟩
  refine cont_I C hP hD hS ct_1 (run_S (As := [.int 1]) (rest := [.int (nI (100 * j))]) C hP hD hS ct_1 (c_mw1 l D ty) kS_PinchedBillModel_218 rfl hl.1 rfl (nle rfl) d_X9_figure_2 ⟨by decide, by decide, by decide, by decide⟩) (fun r_3 w_4 H locs hw_2 hP hD hS => ?_)
  obtain ⟨rfl, rfl⟩ := hw_2
  have hP : va_P D vwCl [] H := hP
  have hD : va_D A [] := hD
  refine r_idiv (z := (nI ((100 * j) / 10))) C d_X9_figure_5 (by decide) (a_div (100 * j) 10 ((100 * j) / 10) rfl rfl (by omega) (by omega) (by omega) rfl) ?_
  refine lv_bipush (v := 10) hx hb d_X9_figure_6 (by decide) ?_
  refine r_irem (z := (nI (((100 * j) / 10) % 10))) C d_X9_figure_8 (by decide) (a_rem ((100 * j) / 10) 10 (((100 * j) / 10) % 10) rfl rfl (by omega) (by omega) (by omega) rfl) ?_
  exact ret_I (w := []) C hP hD hS [] rfl rfl ⟨(Eq.symm (nIc (b := 0) (by omega))), rfl⟩ (by decide) (by decide) d_X9_figure_9
set_option maxHeartbeats 4000000 in
set_option maxRecDepth 100000 in
theorem c_mfgH2 (l : Launch) (D : va_G) (ty : Nat → ClassId) (j : Nat) (hj : j < 10) : CC l D ty ⟨"PinchedBillModel", "figure", "(II)I"⟩ prog_11_method_42_code 2 (some .int) 1 20 0 0 [.int (nI (100 * j)), .int 2] [] (QI D ty (fun (r : Int32) (w : va_W) => 0 = r ∧ w = [])) := by
  refine CC_of (by decide) ?_
  intro p e s m below meth c A C hP hD hS
  obtain ⟨⟨hx, hb, hml, hown, hts⟩, hr, hlocks, hnm, hK, hE, hA, hZ⟩ := id C
  refine startW [.int (nI (100 * j)), .int 2] 2 (nle rfl) (lv := [(0, .int (nI (100 * j))), (1, .int 2)]) rfl (fun ls hl => ?_)
  refine lv_iload_n hx hb d_X9_figure_0 rfl (lv_at hl 0 rfl) ?_
  refine lv_iload_n hx hb d_X9_figure_1 rfl (lv_at hl 1 rfl) ?_
  have ct_1 : Cut [] [] [] [] [] := ⟨rfl, rfl, rfl, rfl, by decide⟩
  refine cont_I C hP hD hS ct_1 (run_S (As := [.int 2]) (rest := [.int (nI (100 * j))]) C hP hD hS ct_1 (c_mw2 l D ty) kS_PinchedBillModel_218 rfl hl.1 rfl (nle rfl) d_X9_figure_2 ⟨by decide, by decide, by decide, by decide⟩) (fun r_3 w_4 H locs hw_2 hP hD hS => ?_)
  obtain ⟨rfl, rfl⟩ := hw_2
  have hP : va_P D vwCl [] H := hP
  have hD : va_D A [] := hD
  refine r_idiv (z := (nI ((100 * j) / 1))) C d_X9_figure_5 (by decide) (a_div (100 * j) 1 ((100 * j) / 1) rfl rfl (by omega) (by omega) (by omega) rfl) ?_
  refine lv_bipush (v := 10) hx hb d_X9_figure_6 (by decide) ?_
  refine r_irem (z := (nI (((100 * j) / 1) % 10))) C d_X9_figure_8 (by decide) (a_rem ((100 * j) / 1) 10 (((100 * j) / 1) % 10) rfl rfl (by omega) (by omega) (by omega) rfl) ?_
  exact ret_I (w := []) C hP hD hS [] rfl rfl ⟨(Eq.symm (nIc (b := 0) (by omega))), rfl⟩ (by decide) (by decide) d_X9_figure_9
set_option maxHeartbeats 4000000 in
set_option maxRecDepth 100000 in
theorem c_mapart (l : Launch) (D : va_G) (ty : Nat → ClassId) (ja : Nat) (jo : Nat) (hja : ja < 10) (hjo : jo < 10) : CC l D ty ⟨"PinchedBillModel", "apart", "(II)I"⟩ prog_11_method_102_code 4 (some .int) 2 41 0 0 [.int (nI (100 * ja)), .int (nI (100 * jo))] [] (QI D ty (fun (r : Int32) (w : va_W) => (nI ((ja - jo) + (jo - ja))) = r ∧ w = [])) := by
  refine CC_of (by decide) ?_
  intro p e s m below meth c A C hP hD hS
  obtain ⟨⟨hx, hb, hml, hown, hts⟩, hr, hlocks, hnm, hK, hE, hA, hZ⟩ := id C
  refine startW [.int (nI (100 * ja)), .int (nI (100 * jo))] 4 (nle rfl) (lv := [(0, .int (nI (100 * ja))), (1, .int (nI (100 * jo)))]) rfl (fun ls hl => ?_)
  refine lv_iconst (v := 0) hx hb d_X9_apart_0 (by decide) ?_
  refine lv_istore_n (lv' := [(2, .int 0), (0, .int (nI (100 * ja))), (1, .int (nI (100 * jo)))]) hx hb d_X9_apart_1 rfl hl (by decide) rfl (fun ls hl => ?_)
  refine lv_iconst (v := 0) hx hb d_X9_apart_2 (by decide) ?_
  refine lv_istore_n (lv' := [(3, .int 0), (2, .int 0), (0, .int (nI (100 * ja))), (1, .int (nI (100 * jo)))]) hx hb d_X9_apart_3 rfl hl (by decide) rfl (fun ls hl => ?_)
  refine lv_iload_n hx hb d_X9_apart_4 rfl (lv_at hl 0 rfl) ?_
  refine lv_iconst (v := 3) hx hb d_X9_apart_5 (by decide) ?_
  refine b_icmp_geF C 32 d_X9_apart_6 (by decide) (by decide) ?_
  refine lv_iload_n hx hb d_X9_apart_9 rfl (lv_at hl 1 rfl) ?_
  refine lv_iload_n hx hb d_X9_apart_10 rfl (lv_at hl 2 rfl) ?_
  refine lv_iload_n hx hb d_X9_apart_11 rfl (lv_at hl 0 rfl) ?_
  have ct_1 : Cut [] [] [] [] [] := ⟨rfl, rfl, rfl, rfl, by decide⟩
  refine cont_I C hP hD hS ct_1 (run_S (As := [.int (nI (100 * ja)), .int 0]) (rest := [.int 0]) C hP hD hS ct_1 (c_mfgH0 l D ty ja hja) kS_PinchedBillModel_288 rfl hl.1 rfl (nle rfl) d_X9_apart_12 ⟨by decide, by decide, by decide, by decide⟩) (fun r_3 w_4 H locs hw_2 hP hD hS => ?_)
  obtain ⟨rfl, rfl⟩ := hw_2
  have hP : va_P D vwCl [] H := hP
  have hD : va_D A [] := hD
  refine lv_iload_n hx hb d_X9_apart_15 rfl (lv_at hl 3 rfl) ?_
  refine lv_iload_n hx hb d_X9_apart_16 rfl (lv_at hl 0 rfl) ?_
  have ct_5 : Cut [] [] [] [] [] := ⟨rfl, rfl, rfl, rfl, by decide⟩
  refine cont_I C hP hD hS ct_5 (run_S (As := [.int (nI (100 * jo)), .int 0]) (rest := [.int (nI ja), .int 0]) C hP hD hS ct_5 (c_mfgH0 l D ty jo hjo) kS_PinchedBillModel_288 rfl hl.1 rfl (nle rfl) d_X9_apart_17 ⟨by decide, by decide, by decide, by decide⟩) (fun r_7 w_8 H locs hw_6 hP hD hS => ?_)
  obtain ⟨rfl, rfl⟩ := hw_6
  have hP : va_P D vwCl [] H := hP
  have hD : va_D A [] := hD
  refine r_isub (z := ((nI ja) - (nI jo))) C d_X9_apart_20 rfl ?_
  refine va_mabs hx hb (hml.trans hl.1.symm) hown (hts _ k_2048) (hts _ k_1200) (hts _ k_123) (hts _ k_1201) (by decide) (nle rfl) (by decide) (by decide) d_X9_apart_21 (topeq (z := (nI ((ja - jo) + (jo - ja)))) (absd (x := (nI ja)) (y := (nI jo)) ja jo rfl rfl (by omega) (by omega)) ?_)
  refine r_iadd (z := (nI ((ja - jo) + (jo - ja)))) C d_X9_apart_24 (a_add 0 ((ja - jo) + (jo - ja)) ((ja - jo) + (jo - ja)) rfl rfl (by omega)) ?_
  refine lv_istore_n (lv' := [(2, .int (nI ((ja - jo) + (jo - ja)))), (3, .int 0), (0, .int (nI (100 * ja))), (1, .int (nI (100 * jo)))]) hx hb d_X9_apart_25 rfl hl (by decide) rfl (fun ls hl => ?_)
  refine lv_iinc (v := 1) (lv' := [(3, .int 1), (2, .int (nI ((ja - jo) + (jo - ja)))), (0, .int (nI (100 * ja))), (1, .int (nI (100 * jo)))]) (k := 1) hx hb d_X9_apart_26 hl rfl (by decide) (by decide) rfl (fun ls hl => ?_)
  refine lv_goto (tgt := 4) hx hb d_X9_apart_29 (by decide) ?_
  refine lv_iload_n hx hb d_X9_apart_4 rfl (lv_at hl 0 rfl) ?_
  refine lv_iconst (v := 3) hx hb d_X9_apart_5 (by decide) ?_
  refine b_icmp_geF C 32 d_X9_apart_6 (by decide) (by decide) ?_
  refine lv_iload_n hx hb d_X9_apart_9 rfl (lv_at hl 1 rfl) ?_
  refine lv_iload_n hx hb d_X9_apart_10 rfl (lv_at hl 2 rfl) ?_
  refine lv_iload_n hx hb d_X9_apart_11 rfl (lv_at hl 0 rfl) ?_
  have ct_9 : Cut [] [] [] [] [] := ⟨rfl, rfl, rfl, rfl, by decide⟩
  refine cont_I C hP hD hS ct_9 (run_S (As := [.int (nI (100 * ja)), .int 1]) (rest := [.int (nI ((ja - jo) + (jo - ja)))]) C hP hD hS ct_9 (c_mfgH1 l D ty ja hja) kS_PinchedBillModel_288 rfl hl.1 rfl (nle rfl) d_X9_apart_12 ⟨by decide, by decide, by decide, by decide⟩) (fun r_11 w_12 H locs hw_10 hP hD hS => ?_)
  obtain ⟨rfl, rfl⟩ := hw_10
  have hP : va_P D vwCl [] H := hP
  have hD : va_D A [] := hD
  refine lv_iload_n hx hb d_X9_apart_15 rfl (lv_at hl 3 rfl) ?_
  refine lv_iload_n hx hb d_X9_apart_16 rfl (lv_at hl 0 rfl) ?_
  have ct_13 : Cut [] [] [] [] [] := ⟨rfl, rfl, rfl, rfl, by decide⟩
  refine cont_I C hP hD hS ct_13 (run_S (As := [.int (nI (100 * jo)), .int 1]) (rest := [.int 0, .int (nI ((ja - jo) + (jo - ja)))]) C hP hD hS ct_13 (c_mfgH1 l D ty jo hjo) kS_PinchedBillModel_288 rfl hl.1 rfl (nle rfl) d_X9_apart_17 ⟨by decide, by decide, by decide, by decide⟩) (fun r_15 w_16 H locs hw_14 hP hD hS => ?_)
  obtain ⟨rfl, rfl⟩ := hw_14
  have hP : va_P D vwCl [] H := hP
  have hD : va_D A [] := hD
  refine r_isub (z := 0) C d_X9_apart_20 (by decide) ?_
  refine va_mabs hx hb (hml.trans hl.1.symm) hown (hts _ k_2048) (hts _ k_1200) (hts _ k_123) (hts _ k_1201) (by decide) (nle rfl) (by decide) (by decide) d_X9_apart_21 (W.eq (g2 := F0 m 24 ls [.int 0, .int (nI ((ja - jo) + (jo - ja)))]) (by rfl) ?_)
  refine r_iadd (z := (nI ((ja - jo) + (jo - ja)))) C d_X9_apart_24 (a_add ((ja - jo) + (jo - ja)) 0 ((ja - jo) + (jo - ja)) rfl rfl (by omega)) ?_
  refine lv_istore_n (lv' := [(2, .int (nI ((ja - jo) + (jo - ja)))), (3, .int 1), (0, .int (nI (100 * ja))), (1, .int (nI (100 * jo)))]) hx hb d_X9_apart_25 rfl hl (by decide) rfl (fun ls hl => ?_)
  refine lv_iinc (v := 2) (lv' := [(3, .int 2), (2, .int (nI ((ja - jo) + (jo - ja)))), (0, .int (nI (100 * ja))), (1, .int (nI (100 * jo)))]) (k := 1) hx hb d_X9_apart_26 hl rfl (by decide) (by decide) rfl (fun ls hl => ?_)
  refine lv_goto (tgt := 4) hx hb d_X9_apart_29 (by decide) ?_
  refine lv_iload_n hx hb d_X9_apart_4 rfl (lv_at hl 0 rfl) ?_
  refine lv_iconst (v := 3) hx hb d_X9_apart_5 (by decide) ?_
  refine b_icmp_geF C 32 d_X9_apart_6 (by decide) (by decide) ?_
  refine lv_iload_n hx hb d_X9_apart_9 rfl (lv_at hl 1 rfl) ?_
  refine lv_iload_n hx hb d_X9_apart_10 rfl (lv_at hl 2 rfl) ?_
  refine lv_iload_n hx hb d_X9_apart_11 rfl (lv_at hl 0 rfl) ?_
  have ct_17 : Cut [] [] [] [] [] := ⟨rfl, rfl, rfl, rfl, by decide⟩
  refine cont_I C hP hD hS ct_17 (run_S (As := [.int (nI (100 * ja)), .int 2]) (rest := [.int (nI ((ja - jo) + (jo - ja)))]) C hP hD hS ct_17 (c_mfgH2 l D ty ja hja) kS_PinchedBillModel_288 rfl hl.1 rfl (nle rfl) d_X9_apart_12 ⟨by decide, by decide, by decide, by decide⟩) (fun r_19 w_20 H locs hw_18 hP hD hS => ?_)
  obtain ⟨rfl, rfl⟩ := hw_18
  have hP : va_P D vwCl [] H := hP
  have hD : va_D A [] := hD
  refine lv_iload_n hx hb d_X9_apart_15 rfl (lv_at hl 3 rfl) ?_
  refine lv_iload_n hx hb d_X9_apart_16 rfl (lv_at hl 0 rfl) ?_
  have ct_21 : Cut [] [] [] [] [] := ⟨rfl, rfl, rfl, rfl, by decide⟩
  refine cont_I C hP hD hS ct_21 (run_S (As := [.int (nI (100 * jo)), .int 2]) (rest := [.int 0, .int (nI ((ja - jo) + (jo - ja)))]) C hP hD hS ct_21 (c_mfgH2 l D ty jo hjo) kS_PinchedBillModel_288 rfl hl.1 rfl (nle rfl) d_X9_apart_17 ⟨by decide, by decide, by decide, by decide⟩) (fun r_23 w_24 H locs hw_22 hP hD hS => ?_)
  obtain ⟨rfl, rfl⟩ := hw_22
  have hP : va_P D vwCl [] H := hP
  have hD : va_D A [] := hD
  refine r_isub (z := 0) C d_X9_apart_20 (by decide) ?_
  refine va_mabs hx hb (hml.trans hl.1.symm) hown (hts _ k_2048) (hts _ k_1200) (hts _ k_123) (hts _ k_1201) (by decide) (nle rfl) (by decide) (by decide) d_X9_apart_21 (W.eq (g2 := F0 m 24 ls [.int 0, .int (nI ((ja - jo) + (jo - ja)))]) (by rfl) ?_)
  refine r_iadd (z := (nI ((ja - jo) + (jo - ja)))) C d_X9_apart_24 (a_add ((ja - jo) + (jo - ja)) 0 ((ja - jo) + (jo - ja)) rfl rfl (by omega)) ?_
  refine lv_istore_n (lv' := [(2, .int (nI ((ja - jo) + (jo - ja)))), (3, .int 2), (0, .int (nI (100 * ja))), (1, .int (nI (100 * jo)))]) hx hb d_X9_apart_25 rfl hl (by decide) rfl (fun ls hl => ?_)
  refine lv_iinc (v := 3) (lv' := [(3, .int 3), (2, .int (nI ((ja - jo) + (jo - ja)))), (0, .int (nI (100 * ja))), (1, .int (nI (100 * jo)))]) (k := 1) hx hb d_X9_apart_26 hl rfl (by decide) (by decide) rfl (fun ls hl => ?_)
  refine lv_goto (tgt := 4) hx hb d_X9_apart_29 (by decide) ?_
  refine lv_iload_n hx hb d_X9_apart_4 rfl (lv_at hl 0 rfl) ?_
  refine lv_iconst (v := 3) hx hb d_X9_apart_5 (by decide) ?_
  refine b_icmp_geT C 32 d_X9_apart_6 (by decide) (by decide) ?_
  refine lv_iload_n hx hb d_X9_apart_32 rfl (lv_at hl 1 rfl) ?_
  exact ret_I (w := []) C hP hD hS [] rfl rfl ⟨(Eq.symm (nIc (by omega))), rfl⟩ (by decide) (by decide) d_X9_apart_33
set_option maxHeartbeats 4000000 in
set_option maxRecDepth 100000 in
theorem c_mapart0 (l : Launch) (D : va_G) (ty : Nat → ClassId) (ja : Nat) (hja : ja < 10) : CC l D ty ⟨"PinchedBillModel", "apart", "(II)I"⟩ prog_11_method_102_code 4 (some .int) 2 41 0 0 [.int (nI (100 * ja)), .int 0] [] (QI D ty (fun (r : Int32) (w : va_W) => (nI ja) = r ∧ w = [])) := by
  refine CC_of (by decide) ?_
  intro p e s m below meth c A C hP hD hS
  obtain ⟨⟨hx, hb, hml, hown, hts⟩, hr, hlocks, hnm, hK, hE, hA, hZ⟩ := id C
  refine startW [.int (nI (100 * ja)), .int 0] 4 (nle rfl) (lv := [(0, .int (nI (100 * ja))), (1, .int 0)]) rfl (fun ls hl => ?_)
  refine lv_iconst (v := 0) hx hb d_X9_apart_0 (by decide) ?_
  refine lv_istore_n (lv' := [(2, .int 0), (0, .int (nI (100 * ja))), (1, .int 0)]) hx hb d_X9_apart_1 rfl hl (by decide) rfl (fun ls hl => ?_)
  refine lv_iconst (v := 0) hx hb d_X9_apart_2 (by decide) ?_
  refine lv_istore_n (lv' := [(3, .int 0), (2, .int 0), (0, .int (nI (100 * ja))), (1, .int 0)]) hx hb d_X9_apart_3 rfl hl (by decide) rfl (fun ls hl => ?_)
  refine lv_iload_n hx hb d_X9_apart_4 rfl (lv_at hl 0 rfl) ?_
  refine lv_iconst (v := 3) hx hb d_X9_apart_5 (by decide) ?_
  refine b_icmp_geF C 32 d_X9_apart_6 (by decide) (by decide) ?_
  refine lv_iload_n hx hb d_X9_apart_9 rfl (lv_at hl 1 rfl) ?_
  refine lv_iload_n hx hb d_X9_apart_10 rfl (lv_at hl 2 rfl) ?_
  refine lv_iload_n hx hb d_X9_apart_11 rfl (lv_at hl 0 rfl) ?_
  have ct_1 : Cut [] [] [] [] [] := ⟨rfl, rfl, rfl, rfl, by decide⟩
  refine cont_I C hP hD hS ct_1 (run_S (As := [.int (nI (100 * ja)), .int 0]) (rest := [.int 0]) C hP hD hS ct_1 (c_mfgH0 l D ty ja hja) kS_PinchedBillModel_288 rfl hl.1 rfl (nle rfl) d_X9_apart_12 ⟨by decide, by decide, by decide, by decide⟩) (fun r_3 w_4 H locs hw_2 hP hD hS => ?_)
  obtain ⟨rfl, rfl⟩ := hw_2
  have hP : va_P D vwCl [] H := hP
  have hD : va_D A [] := hD
  refine lv_iload_n hx hb d_X9_apart_15 rfl (lv_at hl 3 rfl) ?_
  refine lv_iload_n hx hb d_X9_apart_16 rfl (lv_at hl 0 rfl) ?_
  have ct_5 : Cut [] [] [] [] [] := ⟨rfl, rfl, rfl, rfl, by decide⟩
  refine cont_I C hP hD hS ct_5 (run_S (As := [.int 0, .int 0]) (rest := [.int (nI ja), .int 0]) C hP hD hS ct_5 (c_mfig0 l D ty 0 (by omega)) kS_PinchedBillModel_288 rfl hl.1 rfl (nle rfl) d_X9_apart_17 ⟨by decide, by decide, by decide, by decide⟩) (fun r_7 w_8 H locs hw_6 hP hD hS => ?_)
  obtain ⟨rfl, rfl⟩ := hw_6
  have hP : va_P D vwCl [] H := hP
  have hD : va_D A [] := hD
  refine r_isub (z := (nI (ja - 0))) C d_X9_apart_20 (a_sub ja 0 (ja - 0) rfl rfl (by omega)) ?_
  refine va_mabs hx hb (hml.trans hl.1.symm) hown (hts _ k_2048) (hts _ k_1200) (hts _ k_123) (hts _ k_1201) (by decide) (nle rfl) (by decide) (by decide) d_X9_apart_21 (topeq (z := (nI (ja - 0))) (absn ((ja - 0)) rfl (by omega)) ?_)
  refine r_iadd (z := (nI (ja - 0))) C d_X9_apart_24 (a_add 0 (ja - 0) (ja - 0) rfl rfl (by omega)) ?_
  refine lv_istore_n (lv' := [(2, .int (nI (ja - 0))), (3, .int 0), (0, .int (nI (100 * ja))), (1, .int 0)]) hx hb d_X9_apart_25 rfl hl (by decide) rfl (fun ls hl => ?_)
  refine lv_iinc (v := 1) (lv' := [(3, .int 1), (2, .int (nI (ja - 0))), (0, .int (nI (100 * ja))), (1, .int 0)]) (k := 1) hx hb d_X9_apart_26 hl rfl (by decide) (by decide) rfl (fun ls hl => ?_)
  refine lv_goto (tgt := 4) hx hb d_X9_apart_29 (by decide) ?_
  refine lv_iload_n hx hb d_X9_apart_4 rfl (lv_at hl 0 rfl) ?_
  refine lv_iconst (v := 3) hx hb d_X9_apart_5 (by decide) ?_
  refine b_icmp_geF C 32 d_X9_apart_6 (by decide) (by decide) ?_
  refine lv_iload_n hx hb d_X9_apart_9 rfl (lv_at hl 1 rfl) ?_
  refine lv_iload_n hx hb d_X9_apart_10 rfl (lv_at hl 2 rfl) ?_
  refine lv_iload_n hx hb d_X9_apart_11 rfl (lv_at hl 0 rfl) ?_
  have ct_9 : Cut [] [] [] [] [] := ⟨rfl, rfl, rfl, rfl, by decide⟩
  refine cont_I C hP hD hS ct_9 (run_S (As := [.int (nI (100 * ja)), .int 1]) (rest := [.int (nI (ja - 0))]) C hP hD hS ct_9 (c_mfgH1 l D ty ja hja) kS_PinchedBillModel_288 rfl hl.1 rfl (nle rfl) d_X9_apart_12 ⟨by decide, by decide, by decide, by decide⟩) (fun r_11 w_12 H locs hw_10 hP hD hS => ?_)
  obtain ⟨rfl, rfl⟩ := hw_10
  have hP : va_P D vwCl [] H := hP
  have hD : va_D A [] := hD
  refine lv_iload_n hx hb d_X9_apart_15 rfl (lv_at hl 3 rfl) ?_
  refine lv_iload_n hx hb d_X9_apart_16 rfl (lv_at hl 0 rfl) ?_
  have ct_13 : Cut [] [] [] [] [] := ⟨rfl, rfl, rfl, rfl, by decide⟩
  refine cont_I C hP hD hS ct_13 (run_S (As := [.int 0, .int 1]) (rest := [.int 0, .int (nI (ja - 0))]) C hP hD hS ct_13 (c_mfig1 l D ty 0 (by omega)) kS_PinchedBillModel_288 rfl hl.1 rfl (nle rfl) d_X9_apart_17 ⟨by decide, by decide, by decide, by decide⟩) (fun r_15 w_16 H locs hw_14 hP hD hS => ?_)
  obtain ⟨rfl, rfl⟩ := hw_14
  have hP : va_P D vwCl [] H := hP
  have hD : va_D A [] := hD
  refine r_isub (z := 0) C d_X9_apart_20 (by decide) ?_
  refine va_mabs hx hb (hml.trans hl.1.symm) hown (hts _ k_2048) (hts _ k_1200) (hts _ k_123) (hts _ k_1201) (by decide) (nle rfl) (by decide) (by decide) d_X9_apart_21 (W.eq (g2 := F0 m 24 ls [.int 0, .int (nI (ja - 0))]) (by rfl) ?_)
  refine r_iadd (z := (nI (ja - 0))) C d_X9_apart_24 (a_add (ja - 0) 0 (ja - 0) rfl rfl (by omega)) ?_
  refine lv_istore_n (lv' := [(2, .int (nI (ja - 0))), (3, .int 1), (0, .int (nI (100 * ja))), (1, .int 0)]) hx hb d_X9_apart_25 rfl hl (by decide) rfl (fun ls hl => ?_)
  refine lv_iinc (v := 2) (lv' := [(3, .int 2), (2, .int (nI (ja - 0))), (0, .int (nI (100 * ja))), (1, .int 0)]) (k := 1) hx hb d_X9_apart_26 hl rfl (by decide) (by decide) rfl (fun ls hl => ?_)
  refine lv_goto (tgt := 4) hx hb d_X9_apart_29 (by decide) ?_
  refine lv_iload_n hx hb d_X9_apart_4 rfl (lv_at hl 0 rfl) ?_
  refine lv_iconst (v := 3) hx hb d_X9_apart_5 (by decide) ?_
  refine b_icmp_geF C 32 d_X9_apart_6 (by decide) (by decide) ?_
  refine lv_iload_n hx hb d_X9_apart_9 rfl (lv_at hl 1 rfl) ?_
  refine lv_iload_n hx hb d_X9_apart_10 rfl (lv_at hl 2 rfl) ?_
  refine lv_iload_n hx hb d_X9_apart_11 rfl (lv_at hl 0 rfl) ?_
  have ct_17 : Cut [] [] [] [] [] := ⟨rfl, rfl, rfl, rfl, by decide⟩
  refine cont_I C hP hD hS ct_17 (run_S (As := [.int (nI (100 * ja)), .int 2]) (rest := [.int (nI (ja - 0))]) C hP hD hS ct_17 (c_mfgH2 l D ty ja hja) kS_PinchedBillModel_288 rfl hl.1 rfl (nle rfl) d_X9_apart_12 ⟨by decide, by decide, by decide, by decide⟩) (fun r_19 w_20 H locs hw_18 hP hD hS => ?_)
  obtain ⟨rfl, rfl⟩ := hw_18
  have hP : va_P D vwCl [] H := hP
  have hD : va_D A [] := hD
  refine lv_iload_n hx hb d_X9_apart_15 rfl (lv_at hl 3 rfl) ?_
  refine lv_iload_n hx hb d_X9_apart_16 rfl (lv_at hl 0 rfl) ?_
  have ct_21 : Cut [] [] [] [] [] := ⟨rfl, rfl, rfl, rfl, by decide⟩
  refine cont_I C hP hD hS ct_21 (run_S (As := [.int 0, .int 2]) (rest := [.int 0, .int (nI (ja - 0))]) C hP hD hS ct_21 (c_mfig2 l D ty 0 (by omega)) kS_PinchedBillModel_288 rfl hl.1 rfl (nle rfl) d_X9_apart_17 ⟨by decide, by decide, by decide, by decide⟩) (fun r_23 w_24 H locs hw_22 hP hD hS => ?_)
  obtain ⟨rfl, rfl⟩ := hw_22
  have hP : va_P D vwCl [] H := hP
  have hD : va_D A [] := hD
  refine r_isub (z := 0) C d_X9_apart_20 (by decide) ?_
  refine va_mabs hx hb (hml.trans hl.1.symm) hown (hts _ k_2048) (hts _ k_1200) (hts _ k_123) (hts _ k_1201) (by decide) (nle rfl) (by decide) (by decide) d_X9_apart_21 (W.eq (g2 := F0 m 24 ls [.int 0, .int (nI (ja - 0))]) (by rfl) ?_)
  refine r_iadd (z := (nI (ja - 0))) C d_X9_apart_24 (a_add (ja - 0) 0 (ja - 0) rfl rfl (by omega)) ?_
  refine lv_istore_n (lv' := [(2, .int (nI (ja - 0))), (3, .int 2), (0, .int (nI (100 * ja))), (1, .int 0)]) hx hb d_X9_apart_25 rfl hl (by decide) rfl (fun ls hl => ?_)
  refine lv_iinc (v := 3) (lv' := [(3, .int 3), (2, .int (nI (ja - 0))), (0, .int (nI (100 * ja))), (1, .int 0)]) (k := 1) hx hb d_X9_apart_26 hl rfl (by decide) (by decide) rfl (fun ls hl => ?_)
  refine lv_goto (tgt := 4) hx hb d_X9_apart_29 (by decide) ?_
  refine lv_iload_n hx hb d_X9_apart_4 rfl (lv_at hl 0 rfl) ?_
  refine lv_iconst (v := 3) hx hb d_X9_apart_5 (by decide) ?_
  refine b_icmp_geT C 32 d_X9_apart_6 (by decide) (by decide) ?_
  refine lv_iload_n hx hb d_X9_apart_32 rfl (lv_at hl 1 rfl) ?_
  exact ret_I (w := []) C hP hD hS [] rfl rfl ⟨(Eq.symm (nIc (by omega))), rfl⟩ (by decide) (by decide) d_X9_apart_33

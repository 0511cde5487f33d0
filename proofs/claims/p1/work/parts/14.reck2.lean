theorem d_X4_howManyEndIn_0 : decode prog_6_method_7_code 0 = .ok (.aload_n 0, 1) := by decide +kernel
theorem d_X4_howManyEndIn_1 : decode prog_6_method_7_code 1 = .ok (.iload_n 2, 1) := by decide +kernel
theorem k_625 : Cond.code ⟨"PinchedBill$Reckoner", "settleAll", "(I)V"⟩ prog_6_method_6_code 4 none ∈ gd_tbl := gd_in 625 (by decide +kernel) (by decide +kernel)
theorem k_622 : Cond.methodLink "PinchedBill$Reckoner" 120 ⟨"PinchedBill$Reckoner", "settleAll", "(I)V"⟩ ∈ gd_tbl := gd_in 622 (by decide +kernel) (by decide +kernel)
theorem k_624 : Cond.instanceMethod ⟨"PinchedBill$Reckoner", "settleAll", "(I)V"⟩ ∈ gd_tbl := gd_in 624 (by decide +kernel) (by decide +kernel)
theorem k_10 : Cond.selects "PinchedBill$Reckoner" ⟨"PinchedBill$Reckoner", "settleAll", "(I)V"⟩ ⟨"PinchedBill$Reckoner", "settleAll", "(I)V"⟩ ∈ gd_tbl := gd_in 10 (by decide +kernel) (by decide +kernel)
theorem kV_PinchedBill_Reckoner_120 : kV "PinchedBill$Reckoner" 120 ⟨"PinchedBill$Reckoner", "settleAll", "(I)V"⟩ prog_6_method_6_code 4 none 1 := ⟨k_622, k_624, k_10, k_136, k_625, by decide, by decide, by decide +kernel⟩
theorem d_X4_howManyEndIn_2 : decode prog_6_method_7_code 2 = .ok (.invokevirtual 120, 3) := by decide +kernel
theorem d_X4_howManyEndIn_5 : decode prog_6_method_7_code 5 = .ok (.iconst 0, 1) := by decide +kernel
theorem d_X4_howManyEndIn_6 : decode prog_6_method_7_code 6 = .ok (.istore_n 3, 1) := by decide +kernel
theorem d_X4_howManyEndIn_7 : decode prog_6_method_7_code 7 = .ok (.iconst 0, 1) := by decide +kernel
theorem d_X4_howManyEndIn_8 : decode prog_6_method_7_code 8 = .ok (.istore 4, 2) := by decide +kernel
theorem d_X4_howManyEndIn_10 : decode prog_6_method_7_code 10 = .ok (.iload 4, 2) := by decide +kernel
theorem d_X4_howManyEndIn_12 : decode prog_6_method_7_code 12 = .ok (.aload_n 0, 1) := by decide +kernel
theorem d_X4_howManyEndIn_13 : decode prog_6_method_7_code 13 = .ok (.getfield 53, 3) := by decide +kernel
theorem d_X4_howManyEndIn_16 : decode prog_6_method_7_code 16 = .ok (.invokevirtual 107, 3) := by decide +kernel
theorem d_X4_howManyEndIn_19 : decode prog_6_method_7_code 19 = .ok (.if_icmp .ge 23, 3) := by decide +kernel
theorem d_X4_howManyEndIn_42 : decode prog_6_method_7_code 42 = .ok (.iload_n 3, 1) := by decide +kernel
theorem d_X4_howManyEndIn_43 : decode prog_6_method_7_code 43 = .ok (.ireturn, 1) := by decide +kernel
theorem d_X4_howManyEndIn_22 : decode prog_6_method_7_code 22 = .ok (.aload_n 0, 1) := by decide +kernel
theorem d_X4_howManyEndIn_23 : decode prog_6_method_7_code 23 = .ok (.getfield 29, 3) := by decide +kernel
theorem d_X4_howManyEndIn_26 : decode prog_6_method_7_code 26 = .ok (.iload 4, 2) := by decide +kernel
theorem d_X4_howManyEndIn_28 : decode prog_6_method_7_code 28 = .ok (.iaload, 1) := by decide +kernel
theorem d_X4_howManyEndIn_29 : decode prog_6_method_7_code 29 = .ok (.iload_n 1, 1) := by decide +kernel
theorem d_X4_howManyEndIn_30 : decode prog_6_method_7_code 30 = .ok (.if_icmp .ne 6, 3) := by decide +kernel
theorem d_X4_howManyEndIn_36 : decode prog_6_method_7_code 36 = .ok (.iinc 4 1, 3) := by decide +kernel
theorem d_X4_howManyEndIn_39 : decode prog_6_method_7_code 39 = .ok (.goto (-29), 3) := by decide +kernel
theorem d_X4_howManyEndIn_33 : decode prog_6_method_7_code 33 = .ok (.iinc 3 1, 3) := by decide +kernel
theorem d_X4_longestWay_0 : decode prog_6_method_8_code 0 = .ok (.aload_n 0, 1) := by decide +kernel
theorem d_X4_longestWay_1 : decode prog_6_method_8_code 1 = .ok (.iload_n 1, 1) := by decide +kernel
theorem d_X4_longestWay_2 : decode prog_6_method_8_code 2 = .ok (.invokevirtual 120, 3) := by decide +kernel
theorem d_X4_longestWay_5 : decode prog_6_method_8_code 5 = .ok (.iconst (-1), 1) := by decide +kernel
theorem d_X4_longestWay_6 : decode prog_6_method_8_code 6 = .ok (.istore_n 2, 1) := by decide +kernel
theorem d_X4_longestWay_7 : decode prog_6_method_8_code 7 = .ok (.iconst (-1), 1) := by decide +kernel
theorem d_X4_longestWay_8 : decode prog_6_method_8_code 8 = .ok (.istore_n 3, 1) := by decide +kernel
theorem d_X4_longestWay_9 : decode prog_6_method_8_code 9 = .ok (.iconst 0, 1) := by decide +kernel
theorem d_X4_longestWay_10 : decode prog_6_method_8_code 10 = .ok (.istore 4, 2) := by decide +kernel
theorem d_X4_longestWay_12 : decode prog_6_method_8_code 12 = .ok (.iload 4, 2) := by decide +kernel
theorem d_X4_longestWay_14 : decode prog_6_method_8_code 14 = .ok (.aload_n 0, 1) := by decide +kernel
theorem d_X4_longestWay_15 : decode prog_6_method_8_code 15 = .ok (.getfield 53, 3) := by decide +kernel
theorem d_X4_longestWay_18 : decode prog_6_method_8_code 18 = .ok (.invokevirtual 107, 3) := by decide +kernel
theorem d_X4_longestWay_21 : decode prog_6_method_8_code 21 = .ok (.if_icmp .ge 49, 3) := by decide +kernel
theorem d_X4_longestWay_24 : decode prog_6_method_8_code 24 = .ok (.aload_n 0, 1) := by decide +kernel
theorem d_X4_longestWay_25 : decode prog_6_method_8_code 25 = .ok (.getfield 29, 3) := by decide +kernel
theorem d_X4_longestWay_28 : decode prog_6_method_8_code 28 = .ok (.iload 4, 2) := by decide +kernel
theorem d_X4_longestWay_30 : decode prog_6_method_8_code 30 = .ok (.iaload, 1) := by decide +kernel
theorem d_X4_longestWay_31 : decode prog_6_method_8_code 31 = .ok (.iconst (-1), 1) := by decide +kernel
theorem d_X4_longestWay_32 : decode prog_6_method_8_code 32 = .ok (.if_icmp .eq 32, 3) := by decide +kernel
theorem d_X4_longestWay_35 : decode prog_6_method_8_code 35 = .ok (.aload_n 0, 1) := by decide +kernel
theorem d_X4_longestWay_36 : decode prog_6_method_8_code 36 = .ok (.getfield 32, 3) := by decide +kernel
theorem d_X4_longestWay_39 : decode prog_6_method_8_code 39 = .ok (.iload 4, 2) := by decide +kernel
theorem d_X4_longestWay_41 : decode prog_6_method_8_code 41 = .ok (.iaload, 1) := by decide +kernel
theorem d_X4_longestWay_42 : decode prog_6_method_8_code 42 = .ok (.iload_n 3, 1) := by decide +kernel
theorem d_X4_longestWay_43 : decode prog_6_method_8_code 43 = .ok (.if_icmp .le 21, 3) := by decide +kernel
theorem d_X4_longestWay_46 : decode prog_6_method_8_code 46 = .ok (.aload_n 0, 1) := by decide +kernel
theorem d_X4_longestWay_47 : decode prog_6_method_8_code 47 = .ok (.getfield 53, 3) := by decide +kernel
theorem d_X4_longestWay_50 : decode prog_6_method_8_code 50 = .ok (.iload 4, 2) := by decide +kernel
theorem d_X4_longestWay_52 : decode prog_6_method_8_code 52 = .ok (.invokevirtual 112, 3) := by decide +kernel
theorem d_X4_longestWay_55 : decode prog_6_method_8_code 55 = .ok (.istore_n 2, 1) := by decide +kernel
theorem d_X4_longestWay_56 : decode prog_6_method_8_code 56 = .ok (.aload_n 0, 1) := by decide +kernel
theorem d_X4_longestWay_57 : decode prog_6_method_8_code 57 = .ok (.getfield 32, 3) := by decide +kernel
theorem d_X4_longestWay_60 : decode prog_6_method_8_code 60 = .ok (.iload 4, 2) := by decide +kernel
theorem d_X4_longestWay_62 : decode prog_6_method_8_code 62 = .ok (.iaload, 1) := by decide +kernel
theorem d_X4_longestWay_63 : decode prog_6_method_8_code 63 = .ok (.istore_n 3, 1) := by decide +kernel
theorem d_X4_longestWay_64 : decode prog_6_method_8_code 64 = .ok (.iinc 4 1, 3) := by decide +kernel
theorem d_X4_longestWay_67 : decode prog_6_method_8_code 67 = .ok (.goto (-55), 3) := by decide +kernel
theorem d_X4_longestWay_70 : decode prog_6_method_8_code 70 = .ok (.iload_n 2, 1) := by decide +kernel
theorem d_X4_longestWay_71 : decode prog_6_method_8_code 71 = .ok (.ireturn, 1) := by decide +kernel
theorem d_X4_endWith_0 : decode prog_6_method_9_code 0 = .ok (.iload_n 2, 1) := by decide +kernel
theorem d_X4_endWith_1 : decode prog_6_method_9_code 1 = .ok (.ifCond .lt 10, 3) := by decide +kernel
theorem d_X4_endWith_4 : decode prog_6_method_9_code 4 = .ok (.iload_n 2, 1) := by decide +kernel
theorem d_X4_endWith_5 : decode prog_6_method_9_code 5 = .ok (.sipush 256, 3) := by decide +kernel
theorem d_X4_endWith_8 : decode prog_6_method_9_code 8 = .ok (.if_icmp .lt 5, 3) := by decide +kernel
theorem d_X4_endWith_13 : decode prog_6_method_9_code 13 = .ok (.aload_n 0, 1) := by decide +kernel
theorem d_X4_endWith_14 : decode prog_6_method_9_code 14 = .ok (.getfield 41, 3) := by decide +kernel
theorem d_X4_endWith_17 : decode prog_6_method_9_code 17 = .ok (.iload_n 1, 1) := by decide +kernel
theorem d_X4_endWith_18 : decode prog_6_method_9_code 18 = .ok (.if_icmp .eq 17, 3) := by decide +kernel
theorem d_X4_endWith_21 : decode prog_6_method_9_code 21 = .ok (.aload_n 0, 1) := by decide +kernel
theorem d_X4_endWith_22 : decode prog_6_method_9_code 22 = .ok (.getfield 38, 3) := by decide +kernel
theorem d_X4_endWith_25 : decode prog_6_method_9_code 25 = .ok (.bipush (-2), 2) := by decide +kernel
theorem k_637 : Cond.code ⟨"java/util/Arrays", "fill", "([II)V"⟩ prog_30_method_103_code 4 none ∈ gd_tbl := gd_in 637 (by decide +kernel) (by decide +kernel)
theorem k_635 : Cond.methodLink "PinchedBill$Reckoner" 101 ⟨"java/util/Arrays", "fill", "([II)V"⟩ ∈ gd_tbl := gd_in 635 (by decide +kernel) (by decide +kernel)
theorem k_636 : Cond.static ⟨"java/util/Arrays", "fill", "([II)V"⟩ ∈ gd_tbl := gd_in 636 (by decide +kernel) (by decide +kernel)
theorem k_128 : Cond.initialized "java/util/Arrays" ∈ gd_tbl := gd_in 128 (by decide +kernel) (by decide +kernel)
theorem kS_PinchedBill_Reckoner_101 : kS "PinchedBill$Reckoner" 101 ⟨"java/util/Arrays", "fill", "([II)V"⟩ prog_30_method_103_code 4 none 2 := ⟨k_635, k_636, k_128, k_637, by decide, by decide, by decide +kernel⟩
theorem d_X4_endWith_27 : decode prog_6_method_9_code 27 = .ok (.invokestatic 101, 3) := by decide +kernel
theorem d_X4_endWith_30 : decode prog_6_method_9_code 30 = .ok (.aload_n 0, 1) := by decide +kernel
theorem d_X4_endWith_31 : decode prog_6_method_9_code 31 = .ok (.iload_n 1, 1) := by decide +kernel
theorem d_X4_endWith_32 : decode prog_6_method_9_code 32 = .ok (.putfield 41, 3) := by decide +kernel
theorem d_X4_endWith_35 : decode prog_6_method_9_code 35 = .ok (.aload_n 0, 1) := by decide +kernel
theorem d_X4_endWith_36 : decode prog_6_method_9_code 36 = .ok (.getfield 38, 3) := by decide +kernel
theorem d_X4_endWith_39 : decode prog_6_method_9_code 39 = .ok (.iload_n 2, 1) := by decide +kernel
theorem d_X4_endWith_40 : decode prog_6_method_9_code 40 = .ok (.iaload, 1) := by decide +kernel
theorem d_X4_endWith_41 : decode prog_6_method_9_code 41 = .ok (.bipush (-2), 2) := by decide +kernel
theorem d_X4_endWith_43 : decode prog_6_method_9_code 43 = .ok (.if_icmp .ne 19, 3) := by decide +kernel
theorem d_X4_endWith_46 : decode prog_6_method_9_code 46 = .ok (.aload_n 0, 1) := by decide +kernel
theorem d_X4_endWith_47 : decode prog_6_method_9_code 47 = .ok (.iload_n 1, 1) := by decide +kernel
theorem d_X4_endWith_48 : decode prog_6_method_9_code 48 = .ok (.iload_n 2, 1) := by decide +kernel
theorem d_X4_endWith_49 : decode prog_6_method_9_code 49 = .ok (.invokevirtual 116, 3) := by decide +kernel
theorem d_X4_endWith_52 : decode prog_6_method_9_code 52 = .ok (.aload_n 0, 1) := by decide +kernel
theorem d_X4_endWith_53 : decode prog_6_method_9_code 53 = .ok (.getfield 38, 3) := by decide +kernel
theorem d_X4_endWith_56 : decode prog_6_method_9_code 56 = .ok (.iload_n 2, 1) := by decide +kernel
theorem d_X4_endWith_57 : decode prog_6_method_9_code 57 = .ok (.aload_n 0, 1) := by decide +kernel
theorem d_X4_endWith_58 : decode prog_6_method_9_code 58 = .ok (.getfield 93, 3) := by decide +kernel
theorem d_X4_endWith_61 : decode prog_6_method_9_code 61 = .ok (.iastore, 1) := by decide +kernel
theorem d_X4_endWith_62 : decode prog_6_method_9_code 62 = .ok (.aload_n 0, 1) := by decide +kernel
theorem d_X4_endWith_63 : decode prog_6_method_9_code 63 = .ok (.getfield 38, 3) := by decide +kernel
theorem d_X4_endWith_66 : decode prog_6_method_9_code 66 = .ok (.iload_n 2, 1) := by decide +kernel
theorem d_X4_endWith_67 : decode prog_6_method_9_code 67 = .ok (.iaload, 1) := by decide +kernel
theorem d_X4_endWith_68 : decode prog_6_method_9_code 68 = .ok (.ireturn, 1) := by decide +kernel
theorem d_X4_fewestSeats_0 : decode prog_6_method_10_code 0 = .ok (.iconst 1, 1) := by decide +kernel
theorem d_X4_fewestSeats_1 : decode prog_6_method_10_code 1 = .ok (.aload_n 0, 1) := by decide +kernel
theorem d_X4_fewestSeats_2 : decode prog_6_method_10_code 2 = .ok (.getfield 53, 3) := by decide +kernel
theorem k_173 : Cond.fieldLink "PinchedBill$Reckoner" 123 "PinchedBill$House" "people" "I" ∈ gd_tbl := gd_in 173 (by decide +kernel) (by decide +kernel)
theorem d_X4_fewestSeats_5 : decode prog_6_method_10_code 5 = .ok (.getfield 123, 3) := by decide +kernel
theorem d_X4_fewestSeats_8 : decode prog_6_method_10_code 8 = .ok (.ishl, 1) := by decide +kernel
theorem d_X4_fewestSeats_9 : decode prog_6_method_10_code 9 = .ok (.istore_n 3, 1) := by decide +kernel
theorem d_X4_fewestSeats_10 : decode prog_6_method_10_code 10 = .ok (.iconst 0, 1) := by decide +kernel
theorem d_X4_fewestSeats_11 : decode prog_6_method_10_code 11 = .ok (.istore 4, 2) := by decide +kernel
theorem d_X4_fewestSeats_13 : decode prog_6_method_10_code 13 = .ok (.iload 4, 2) := by decide +kernel
theorem d_X4_fewestSeats_15 : decode prog_6_method_10_code 15 = .ok (.aload_n 0, 1) := by decide +kernel
theorem d_X4_fewestSeats_16 : decode prog_6_method_10_code 16 = .ok (.getfield 53, 3) := by decide +kernel
theorem d_X4_fewestSeats_19 : decode prog_6_method_10_code 19 = .ok (.getfield 123, 3) := by decide +kernel
theorem d_X4_fewestSeats_22 : decode prog_6_method_10_code 22 = .ok (.if_icmp .gt 67, 3) := by decide +kernel
theorem d_X4_fewestSeats_25 : decode prog_6_method_10_code 25 = .ok (.iconst 0, 1) := by decide +kernel
theorem d_X4_fewestSeats_26 : decode prog_6_method_10_code 26 = .ok (.istore 5, 2) := by decide +kernel
theorem d_X4_fewestSeats_28 : decode prog_6_method_10_code 28 = .ok (.iload 5, 2) := by decide +kernel
theorem d_X4_fewestSeats_30 : decode prog_6_method_10_code 30 = .ok (.iload_n 3, 1) := by decide +kernel
theorem d_X4_fewestSeats_31 : decode prog_6_method_10_code 31 = .ok (.if_icmp .ge 52, 3) := by decide +kernel
theorem d_X4_fewestSeats_34 : decode prog_6_method_10_code 34 = .ok (.iload 5, 2) := by decide +kernel
theorem k_512 : Cond.code ⟨"java/lang/Integer", "bitCount", "(I)I"⟩ prog_20_method_49_code 1 (some .int) ∈ gd_tbl := gd_in 512 (by decide +kernel) (by decide +kernel)
theorem k_1213 : Cond.methodLink "PinchedBill$Reckoner" 126 ⟨"java/lang/Integer", "bitCount", "(I)I"⟩ ∈ gd_tbl := gd_in 1213 (by decide +kernel) (by decide +kernel)
theorem k_511 : Cond.static ⟨"java/lang/Integer", "bitCount", "(I)I"⟩ ∈ gd_tbl := gd_in 511 (by decide +kernel) (by decide +kernel)
theorem k_138 : Cond.initialized "java/lang/Integer" ∈ gd_tbl := gd_in 138 (by decide +kernel) (by decide +kernel)
theorem kS_PinchedBill_Reckoner_126 : kS "PinchedBill$Reckoner" 126 ⟨"java/lang/Integer", "bitCount", "(I)I"⟩ prog_20_method_49_code 1 (some .int) 1 := ⟨k_1213, k_511, k_138, k_512, by decide, by decide, by decide +kernel⟩
theorem d_X4_fewestSeats_36 : decode prog_6_method_10_code 36 = .ok (.invokestatic 126, 3) := by decide +kernel
theorem d_X4_fewestSeats_39 : decode prog_6_method_10_code 39 = .ok (.iload 4, 2) := by decide +kernel
theorem d_X4_fewestSeats_41 : decode prog_6_method_10_code 41 = .ok (.if_icmp .ne 13, 3) := by decide +kernel
theorem d_X4_fewestSeats_44 : decode prog_6_method_10_code 44 = .ok (.aload_n 0, 1) := by decide +kernel
theorem d_X4_fewestSeats_45 : decode prog_6_method_10_code 45 = .ok (.iload_n 1, 1) := by decide +kernel
theorem d_X4_fewestSeats_46 : decode prog_6_method_10_code 46 = .ok (.iload 5, 2) := by decide +kernel
theorem k_1217 : Cond.code ⟨"PinchedBill$Reckoner", "endWith", "(II)I"⟩ prog_6_method_9_code 3 (some .int) ∈ gd_tbl := gd_in 1217 (by decide +kernel) (by decide +kernel)
theorem k_1214 : Cond.methodLink "PinchedBill$Reckoner" 131 ⟨"PinchedBill$Reckoner", "endWith", "(II)I"⟩ ∈ gd_tbl := gd_in 1214 (by decide +kernel) (by decide +kernel)
theorem k_1215 : Cond.instanceMethod ⟨"PinchedBill$Reckoner", "endWith", "(II)I"⟩ ∈ gd_tbl := gd_in 1215 (by decide +kernel) (by decide +kernel)
theorem k_1216 : Cond.selects "PinchedBill$Reckoner" ⟨"PinchedBill$Reckoner", "endWith", "(II)I"⟩ ⟨"PinchedBill$Reckoner", "endWith", "(II)I"⟩ ∈ gd_tbl := gd_in 1216 (by decide +kernel) (by decide +kernel)
theorem kV_PinchedBill_Reckoner_131 : kV "PinchedBill$Reckoner" 131 ⟨"PinchedBill$Reckoner", "endWith", "(II)I"⟩ prog_6_method_9_code 3 (some .int) 2 := ⟨k_1214, k_1215, k_1216, k_136, k_1217, by decide, by decide, by decide +kernel⟩
theorem d_X4_fewestSeats_48 : decode prog_6_method_10_code 48 = .ok (.invokevirtual 131, 3) := by decide +kernel
theorem d_X4_fewestSeats_51 : decode prog_6_method_10_code 51 = .ok (.goto 4, 3) := by decide +kernel
theorem d_X4_fewestSeats_55 : decode prog_6_method_10_code 55 = .ok (.istore 6, 2) := by decide +kernel
theorem d_X4_fewestSeats_57 : decode prog_6_method_10_code 57 = .ok (.iload 6, 2) := by decide +kernel
theorem d_X4_fewestSeats_59 : decode prog_6_method_10_code 59 = .ok (.iconst (-1), 1) := by decide +kernel
theorem d_X4_fewestSeats_60 : decode prog_6_method_10_code 60 = .ok (.if_icmp .eq 17, 3) := by decide +kernel
theorem d_X4_fewestSeats_63 : decode prog_6_method_10_code 63 = .ok (.iload_n 2, 1) := by decide +kernel
theorem d_X4_fewestSeats_64 : decode prog_6_method_10_code 64 = .ok (.iconst (-1), 1) := by decide +kernel
theorem d_X4_fewestSeats_65 : decode prog_6_method_10_code 65 = .ok (.if_icmp .eq 9, 3) := by decide +kernel
theorem d_X4_fewestSeats_74 : decode prog_6_method_10_code 74 = .ok (.iload 5, 2) := by decide +kernel
theorem d_X4_fewestSeats_76 : decode prog_6_method_10_code 76 = .ok (.ireturn, 1) := by decide +kernel
theorem d_X4_fewestSeats_68 : decode prog_6_method_10_code 68 = .ok (.iload_n 2, 1) := by decide +kernel
theorem d_X4_fewestSeats_69 : decode prog_6_method_10_code 69 = .ok (.iload 6, 2) := by decide +kernel
theorem d_X4_fewestSeats_71 : decode prog_6_method_10_code 71 = .ok (.if_icmp .ne 6, 3) := by decide +kernel
theorem d_X4_fewestSeats_77 : decode prog_6_method_10_code 77 = .ok (.iinc 5 1, 3) := by decide +kernel
theorem d_X4_fewestSeats_80 : decode prog_6_method_10_code 80 = .ok (.goto (-52), 3) := by decide +kernel
theorem d_X4_fewestSeats_83 : decode prog_6_method_10_code 83 = .ok (.iinc 4 1, 3) := by decide +kernel
theorem d_X4_fewestSeats_86 : decode prog_6_method_10_code 86 = .ok (.goto (-73), 3) := by decide +kernel
theorem d_X4_fewestSeats_89 : decode prog_6_method_10_code 89 = .ok (.iconst (-1), 1) := by decide +kernel
theorem d_X4_fewestSeats_90 : decode prog_6_method_10_code 90 = .ok (.ireturn, 1) := by decide +kernel
theorem d_X4_weightOf_0 : decode prog_6_method_12_code 0 = .ok (.lconst 1, 1) := by decide +kernel
theorem d_X4_weightOf_1 : decode prog_6_method_12_code 1 = .ok (.lstore_n 3, 1) := by decide +kernel
theorem d_X4_weightOf_2 : decode prog_6_method_12_code 2 = .ok (.iconst 0, 1) := by decide +kernel
theorem d_X4_weightOf_3 : decode prog_6_method_12_code 3 = .ok (.istore 5, 2) := by decide +kernel
theorem d_X4_weightOf_5 : decode prog_6_method_12_code 5 = .ok (.iload 5, 2) := by decide +kernel
theorem d_X4_weightOf_7 : decode prog_6_method_12_code 7 = .ok (.aload_n 0, 1) := by decide +kernel
theorem d_X4_weightOf_8 : decode prog_6_method_12_code 8 = .ok (.getfield 53, 3) := by decide +kernel
theorem d_X4_weightOf_11 : decode prog_6_method_12_code 11 = .ok (.getfield 123, 3) := by decide +kernel
theorem d_X4_weightOf_14 : decode prog_6_method_12_code 14 = .ok (.if_icmp .ge 61, 3) := by decide +kernel
theorem d_X4_weightOf_75 : decode prog_6_method_12_code 75 = .ok (.lload_n 3, 1) := by decide +kernel
theorem d_X4_weightOf_76 : decode prog_6_method_12_code 76 = .ok (.lreturn, 1) := by decide +kernel
theorem d_X4_chanceWithout_0 : decode prog_6_method_11_code 0 = .ok (.lconst 0, 1) := by decide +kernel
theorem d_X4_chanceWithout_1 : decode prog_6_method_11_code 1 = .ok (.lstore_n 3, 1) := by decide +kernel
theorem d_X4_chanceWithout_2 : decode prog_6_method_11_code 2 = .ok (.iconst 1, 1) := by decide +kernel
theorem d_X4_chanceWithout_3 : decode prog_6_method_11_code 3 = .ok (.aload_n 0, 1) := by decide +kernel
theorem d_X4_chanceWithout_4 : decode prog_6_method_11_code 4 = .ok (.getfield 53, 3) := by decide +kernel
theorem d_X4_chanceWithout_7 : decode prog_6_method_11_code 7 = .ok (.getfield 123, 3) := by decide +kernel
theorem d_X4_chanceWithout_10 : decode prog_6_method_11_code 10 = .ok (.ishl, 1) := by decide +kernel
theorem d_X4_chanceWithout_11 : decode prog_6_method_11_code 11 = .ok (.istore 5, 2) := by decide +kernel
theorem d_X4_chanceWithout_13 : decode prog_6_method_11_code 13 = .ok (.iconst 0, 1) := by decide +kernel
theorem d_X4_chanceWithout_14 : decode prog_6_method_11_code 14 = .ok (.istore 6, 2) := by decide +kernel
theorem d_X4_chanceWithout_16 : decode prog_6_method_11_code 16 = .ok (.iload 6, 2) := by decide +kernel
theorem d_X4_chanceWithout_18 : decode prog_6_method_11_code 18 = .ok (.iload 5, 2) := by decide +kernel
theorem d_X4_chanceWithout_20 : decode prog_6_method_11_code 20 = .ok (.if_icmp .ge 41, 3) := by decide +kernel
theorem d_X4_chanceWithout_23 : decode prog_6_method_11_code 23 = .ok (.aload_n 0, 1) := by decide +kernel
theorem d_X4_chanceWithout_24 : decode prog_6_method_11_code 24 = .ok (.iload 6, 2) := by decide +kernel
theorem d_X4_chanceWithout_26 : decode prog_6_method_11_code 26 = .ok (.iload_n 2, 1) := by decide +kernel
theorem k_1357 : Cond.code ⟨"PinchedBill$Reckoner", "weightOf", "(II)J"⟩ prog_6_method_12_code 7 (some .long) ∈ gd_tbl := gd_in 1357 (by decide +kernel) (by decide +kernel)
theorem k_1354 : Cond.methodLink "PinchedBill$Reckoner" 135 ⟨"PinchedBill$Reckoner", "weightOf", "(II)J"⟩ ∈ gd_tbl := gd_in 1354 (by decide +kernel) (by decide +kernel)
theorem k_1356 : Cond.instanceMethod ⟨"PinchedBill$Reckoner", "weightOf", "(II)J"⟩ ∈ gd_tbl := gd_in 1356 (by decide +kernel) (by decide +kernel)
theorem k_41 : Cond.selects "PinchedBill$Reckoner" ⟨"PinchedBill$Reckoner", "weightOf", "(II)J"⟩ ⟨"PinchedBill$Reckoner", "weightOf", "(II)J"⟩ ∈ gd_tbl := gd_in 41 (by decide +kernel) (by decide +kernel)
theorem kV_PinchedBill_Reckoner_135 : kV "PinchedBill$Reckoner" 135 ⟨"PinchedBill$Reckoner", "weightOf", "(II)J"⟩ prog_6_method_12_code 7 (some .long) 2 := ⟨k_1354, k_1356, k_41, k_136, k_1357, by decide, by decide, by decide +kernel⟩
theorem d_X4_chanceWithout_27 : decode prog_6_method_11_code 27 = .ok (.invokevirtual 135, 3) := by decide +kernel
theorem d_X4_chanceWithout_30 : decode prog_6_method_11_code 30 = .ok (.lstore 7, 2) := by decide +kernel
theorem d_X4_chanceWithout_32 : decode prog_6_method_11_code 32 = .ok (.lload 7, 2) := by decide +kernel
theorem d_X4_chanceWithout_34 : decode prog_6_method_11_code 34 = .ok (.lconst 0, 1) := by decide +kernel
theorem d_X4_chanceWithout_35 : decode prog_6_method_11_code 35 = .ok (.lcmp, 1) := by decide +kernel
theorem d_X4_chanceWithout_36 : decode prog_6_method_11_code 36 = .ok (.ifCond .eq 19, 3) := by decide +kernel
theorem d_X4_chanceWithout_39 : decode prog_6_method_11_code 39 = .ok (.aload_n 0, 1) := by decide +kernel
theorem d_X4_chanceWithout_40 : decode prog_6_method_11_code 40 = .ok (.iload_n 1, 1) := by decide +kernel
theorem d_X4_chanceWithout_41 : decode prog_6_method_11_code 41 = .ok (.iload 6, 2) := by decide +kernel
theorem d_X4_chanceWithout_43 : decode prog_6_method_11_code 43 = .ok (.invokevirtual 131, 3) := by decide +kernel
theorem d_X4_chanceWithout_46 : decode prog_6_method_11_code 46 = .ok (.iconst (-1), 1) := by decide +kernel
theorem d_X4_chanceWithout_47 : decode prog_6_method_11_code 47 = .ok (.if_icmp .eq 8, 3) := by decide +kernel
theorem d_X4_chanceWithout_50 : decode prog_6_method_11_code 50 = .ok (.lload_n 3, 1) := by decide +kernel
theorem d_X4_chanceWithout_51 : decode prog_6_method_11_code 51 = .ok (.lload 7, 2) := by decide +kernel
theorem d_X4_chanceWithout_53 : decode prog_6_method_11_code 53 = .ok (.ladd, 1) := by decide +kernel
theorem d_X4_chanceWithout_54 : decode prog_6_method_11_code 54 = .ok (.lstore_n 3, 1) := by decide +kernel
theorem d_X4_chanceWithout_55 : decode prog_6_method_11_code 55 = .ok (.iinc 6 1, 3) := by decide +kernel
theorem d_X4_chanceWithout_58 : decode prog_6_method_11_code 58 = .ok (.goto (-42), 3) := by decide +kernel
theorem d_X4_chanceWithout_61 : decode prog_6_method_11_code 61 = .ok (.lload_n 3, 1) := by decide +kernel
theorem d_X4_chanceWithout_62 : decode prog_6_method_11_code 62 = .ok (.lreturn, 1) := by decide +kernel
theorem d_X4_countSpeeches_0 : decode prog_6_method_13_code 0 = .ok (.aload_n 0, 1) := by decide +kernel
theorem d_X4_countSpeeches_1 : decode prog_6_method_13_code 1 = .ok (.getfield 44, 3) := by decide +kernel
theorem d_X4_countSpeeches_4 : decode prog_6_method_13_code 4 = .ok (.iconst 0, 1) := by decide +kernel
theorem d_X4_countSpeeches_5 : decode prog_6_method_13_code 5 = .ok (.invokestatic 101, 3) := by decide +kernel
theorem d_X4_countSpeeches_8 : decode prog_6_method_13_code 8 = .ok (.aload_n 0, 1) := by decide +kernel
theorem d_X4_countSpeeches_9 : decode prog_6_method_13_code 9 = .ok (.getfield 12, 3) := by decide +kernel
theorem d_X4_countSpeeches_12 : decode prog_6_method_13_code 12 = .ok (.iload_n 1, 1) := by decide +kernel
theorem d_X4_countSpeeches_13 : decode prog_6_method_13_code 13 = .ok (.invokevirtual 69, 3) := by decide +kernel
theorem d_X4_countSpeeches_16 : decode prog_6_method_13_code 16 = .ok (.iconst 0, 1) := by decide +kernel
theorem d_X4_countSpeeches_17 : decode prog_6_method_13_code 17 = .ok (.istore 4, 2) := by decide +kernel
theorem d_X4_countSpeeches_19 : decode prog_6_method_13_code 19 = .ok (.iload 4, 2) := by decide +kernel
theorem d_X4_countSpeeches_21 : decode prog_6_method_13_code 21 = .ok (.iload_n 2, 1) := by decide +kernel
theorem d_X4_countSpeeches_22 : decode prog_6_method_13_code 22 = .ok (.if_icmp .ge 47, 3) := by decide +kernel
theorem d_X4_countSpeeches_69 : decode prog_6_method_13_code 69 = .ok (.return_, 1) := by decide +kernel
theorem d_X4_addFound_0 : decode prog_6_method_19_code 0 = .ok (.aload_n 0, 1) := by decide +kernel
theorem k_427 : Cond.fieldLink "PinchedBill$Reckoner" 153 "PinchedBill$Reckoner" "foundMany" "I" ∈ gd_tbl := gd_in 427 (by decide +kernel) (by decide +kernel)
theorem d_X4_addFound_1 : decode prog_6_method_19_code 1 = .ok (.getfield 153, 3) := by decide +kernel
theorem d_X4_addFound_4 : decode prog_6_method_19_code 4 = .ok (.sipush 1000, 3) := by decide +kernel
theorem d_X4_addFound_7 : decode prog_6_method_19_code 7 = .ok (.if_icmp .ge 23, 3) := by decide +kernel
theorem d_X4_addFound_10 : decode prog_6_method_19_code 10 = .ok (.aload_n 0, 1) := by decide +kernel
theorem d_X4_addFound_11 : decode prog_6_method_19_code 11 = .ok (.getfield 50, 3) := by decide +kernel
theorem d_X4_addFound_14 : decode prog_6_method_19_code 14 = .ok (.aload_n 0, 1) := by decide +kernel
theorem d_X4_addFound_15 : decode prog_6_method_19_code 15 = .ok (.getfield 153, 3) := by decide +kernel
theorem d_X4_addFound_18 : decode prog_6_method_19_code 18 = .ok (.iload_n 1, 1) := by decide +kernel
theorem d_X4_addFound_19 : decode prog_6_method_19_code 19 = .ok (.iastore, 1) := by decide +kernel
theorem d_X4_addFound_20 : decode prog_6_method_19_code 20 = .ok (.aload_n 0, 1) := by decide +kernel
theorem d_X4_addFound_21 : decode prog_6_method_19_code 21 = .ok (.dup, 1) := by decide +kernel
theorem d_X4_addFound_22 : decode prog_6_method_19_code 22 = .ok (.getfield 153, 3) := by decide +kernel
theorem d_X4_addFound_25 : decode prog_6_method_19_code 25 = .ok (.iconst 1, 1) := by decide +kernel
theorem d_X4_addFound_26 : decode prog_6_method_19_code 26 = .ok (.iadd, 1) := by decide +kernel
theorem d_X4_addFound_27 : decode prog_6_method_19_code 27 = .ok (.putfield 153, 3) := by decide +kernel
theorem d_X4_addFound_30 : decode prog_6_method_19_code 30 = .ok (.return_, 1) := by decide +kernel
theorem d_X4_findLaws_0 : decode prog_6_method_16_code 0 = .ok (.aload_n 0, 1) := by decide +kernel
theorem d_X4_findLaws_1 : decode prog_6_method_16_code 1 = .ok (.iconst 0, 1) := by decide +kernel
theorem d_X4_findLaws_2 : decode prog_6_method_16_code 2 = .ok (.putfield 153, 3) := by decide +kernel
theorem d_X4_findLaws_5 : decode prog_6_method_16_code 5 = .ok (.iconst 0, 1) := by decide +kernel
theorem d_X4_findLaws_6 : decode prog_6_method_16_code 6 = .ok (.istore_n 2, 1) := by decide +kernel
theorem d_X4_findLaws_7 : decode prog_6_method_16_code 7 = .ok (.iload_n 2, 1) := by decide +kernel
theorem d_X4_findLaws_8 : decode prog_6_method_16_code 8 = .ok (.aload_n 0, 1) := by decide +kernel
theorem d_X4_findLaws_9 : decode prog_6_method_16_code 9 = .ok (.getfield 53, 3) := by decide +kernel
theorem d_X4_findLaws_12 : decode prog_6_method_16_code 12 = .ok (.invokevirtual 107, 3) := by decide +kernel
theorem d_X4_findLaws_15 : decode prog_6_method_16_code 15 = .ok (.if_icmp .ge 35, 3) := by decide +kernel
theorem d_X4_findLaws_50 : decode prog_6_method_16_code 50 = .ok (.aload_n 0, 1) := by decide +kernel
theorem d_X4_findLaws_51 : decode prog_6_method_16_code 51 = .ok (.getfield 153, 3) := by decide +kernel
theorem d_X4_findLaws_54 : decode prog_6_method_16_code 54 = .ok (.ireturn, 1) := by decide +kernel
theorem d_X4_findLaws_18 : decode prog_6_method_16_code 18 = .ok (.aload_n 0, 1) := by decide +kernel
theorem d_X4_findLaws_19 : decode prog_6_method_16_code 19 = .ok (.getfield 53, 3) := by decide +kernel
theorem d_X4_findLaws_22 : decode prog_6_method_16_code 22 = .ok (.iload_n 2, 1) := by decide +kernel
theorem d_X4_findLaws_23 : decode prog_6_method_16_code 23 = .ok (.invokevirtual 112, 3) := by decide +kernel
theorem d_X4_findLaws_26 : decode prog_6_method_16_code 26 = .ok (.istore_n 3, 1) := by decide +kernel
theorem d_X4_findLaws_27 : decode prog_6_method_16_code 27 = .ok (.aload_n 0, 1) := by decide +kernel
theorem d_X4_findLaws_28 : decode prog_6_method_16_code 28 = .ok (.getfield 62, 3) := by decide +kernel
theorem d_X4_findLaws_31 : decode prog_6_method_16_code 31 = .ok (.iload_n 3, 1) := by decide +kernel
theorem d_X4_findLaws_32 : decode prog_6_method_16_code 32 = .ok (.iload_n 1, 1) := by decide +kernel
theorem k_609 : Cond.code ⟨"PinchedBill$Laws", "isLaw", "(II)Z"⟩ prog_4_method_11_code 3 (some .boolean) ∈ gd_tbl := gd_in 609 (by decide +kernel) (by decide +kernel)
theorem k_606 : Cond.methodLink "PinchedBill$Reckoner" 156 ⟨"PinchedBill$Laws", "isLaw", "(II)Z"⟩ ∈ gd_tbl := gd_in 606 (by decide +kernel) (by decide +kernel)
theorem k_607 : Cond.instanceMethod ⟨"PinchedBill$Laws", "isLaw", "(II)Z"⟩ ∈ gd_tbl := gd_in 607 (by decide +kernel) (by decide +kernel)
theorem k_608 : Cond.selects "PinchedBill$Laws" ⟨"PinchedBill$Laws", "isLaw", "(II)Z"⟩ ⟨"PinchedBill$Laws", "isLaw", "(II)Z"⟩ ∈ gd_tbl := gd_in 608 (by decide +kernel) (by decide +kernel)
theorem kV_PinchedBill_Reckoner_156 : kV "PinchedBill$Reckoner" 156 ⟨"PinchedBill$Laws", "isLaw", "(II)Z"⟩ prog_4_method_11_code 3 (some .boolean) 2 := ⟨k_606, k_607, k_608, k_137, k_609, by decide, by decide, by decide +kernel⟩
theorem d_X4_findLaws_33 : decode prog_6_method_16_code 33 = .ok (.invokevirtual 156, 3) := by decide +kernel
theorem d_X4_findLaws_36 : decode prog_6_method_16_code 36 = .ok (.ifCond .eq 8, 3) := by decide +kernel
theorem d_X4_findLaws_39 : decode prog_6_method_16_code 39 = .ok (.aload_n 0, 1) := by decide +kernel
theorem d_X4_findLaws_40 : decode prog_6_method_16_code 40 = .ok (.iload_n 3, 1) := by decide +kernel
theorem k_613 : Cond.code ⟨"PinchedBill$Reckoner", "addFound", "(I)V"⟩ prog_6_method_19_code 2 none ∈ gd_tbl := gd_in 613 (by decide +kernel) (by decide +kernel)
theorem k_610 : Cond.methodLink "PinchedBill$Reckoner" 160 ⟨"PinchedBill$Reckoner", "addFound", "(I)V"⟩ ∈ gd_tbl := gd_in 610 (by decide +kernel) (by decide +kernel)
theorem k_612 : Cond.instanceMethod ⟨"PinchedBill$Reckoner", "addFound", "(I)V"⟩ ∈ gd_tbl := gd_in 612 (by decide +kernel) (by decide +kernel)
theorem k_9 : Cond.selects "PinchedBill$Reckoner" ⟨"PinchedBill$Reckoner", "addFound", "(I)V"⟩ ⟨"PinchedBill$Reckoner", "addFound", "(I)V"⟩ ∈ gd_tbl := gd_in 9 (by decide +kernel) (by decide +kernel)
theorem kV_PinchedBill_Reckoner_160 : kV "PinchedBill$Reckoner" 160 ⟨"PinchedBill$Reckoner", "addFound", "(I)V"⟩ prog_6_method_19_code 2 none 1 := ⟨k_610, k_612, k_9, k_136, k_613, by decide, by decide, by decide +kernel⟩
theorem d_X4_findLaws_41 : decode prog_6_method_16_code 41 = .ok (.invokevirtual 160, 3) := by decide +kernel
theorem d_X4_findLaws_44 : decode prog_6_method_16_code 44 = .ok (.iinc 2 1, 3) := by decide +kernel
theorem d_X4_findLaws_47 : decode prog_6_method_16_code 47 = .ok (.goto (-40), 3) := by decide +kernel
theorem d_X4_foundAt_0 : decode prog_6_method_20_code 0 = .ok (.iload_n 1, 1) := by decide +kernel
theorem d_X4_foundAt_1 : decode prog_6_method_20_code 1 = .ok (.ifCond .lt 27, 3) := by decide +kernel
theorem d_X4_foundAt_4 : decode prog_6_method_20_code 4 = .ok (.iload_n 1, 1) := by decide +kernel
theorem d_X4_foundAt_5 : decode prog_6_method_20_code 5 = .ok (.aload_n 0, 1) := by decide +kernel
theorem d_X4_foundAt_6 : decode prog_6_method_20_code 6 = .ok (.getfield 153, 3) := by decide +kernel
theorem d_X4_foundAt_9 : decode prog_6_method_20_code 9 = .ok (.if_icmp .ge 19, 3) := by decide +kernel
theorem d_X4_foundAt_12 : decode prog_6_method_20_code 12 = .ok (.iload_n 1, 1) := by decide +kernel
theorem d_X4_foundAt_13 : decode prog_6_method_20_code 13 = .ok (.sipush 1000, 3) := by decide +kernel
theorem d_X4_foundAt_16 : decode prog_6_method_20_code 16 = .ok (.if_icmp .ge 12, 3) := by decide +kernel
theorem d_X4_foundAt_19 : decode prog_6_method_20_code 19 = .ok (.aload_n 0, 1) := by decide +kernel
theorem d_X4_foundAt_20 : decode prog_6_method_20_code 20 = .ok (.getfield 50, 3) := by decide +kernel
theorem d_X4_foundAt_23 : decode prog_6_method_20_code 23 = .ok (.iload_n 1, 1) := by decide +kernel
theorem d_X4_foundAt_24 : decode prog_6_method_20_code 24 = .ok (.iaload, 1) := by decide +kernel
theorem d_X4_foundAt_25 : decode prog_6_method_20_code 25 = .ok (.goto 4, 3) := by decide +kernel
theorem d_X4_foundAt_29 : decode prog_6_method_20_code 29 = .ok (.ireturn, 1) := by decide +kernel
theorem d_X4_foundAt_28 : decode prog_6_method_20_code 28 = .ok (.iconst (-1), 1) := by decide +kernel
theorem d_X4_findBefore_0 : decode prog_6_method_17_code 0 = .ok (.aload_n 0, 1) := by decide +kernel
theorem d_X4_findBefore_1 : decode prog_6_method_17_code 1 = .ok (.iconst 0, 1) := by decide +kernel
theorem d_X4_findBefore_2 : decode prog_6_method_17_code 2 = .ok (.putfield 153, 3) := by decide +kernel
theorem d_X4_findBefore_5 : decode prog_6_method_17_code 5 = .ok (.iconst 0, 1) := by decide +kernel
theorem d_X4_findBefore_6 : decode prog_6_method_17_code 6 = .ok (.istore 4, 2) := by decide +kernel
theorem d_X4_findBefore_8 : decode prog_6_method_17_code 8 = .ok (.iload 4, 2) := by decide +kernel
theorem d_X4_findBefore_10 : decode prog_6_method_17_code 10 = .ok (.aload_n 0, 1) := by decide +kernel
theorem d_X4_findBefore_11 : decode prog_6_method_17_code 11 = .ok (.getfield 53, 3) := by decide +kernel
theorem d_X4_findBefore_14 : decode prog_6_method_17_code 14 = .ok (.invokevirtual 107, 3) := by decide +kernel
theorem d_X4_findBefore_17 : decode prog_6_method_17_code 17 = .ok (.if_icmp .ge 38, 3) := by decide +kernel
theorem d_X4_findBefore_55 : decode prog_6_method_17_code 55 = .ok (.aload_n 0, 1) := by decide +kernel
theorem d_X4_findBefore_56 : decode prog_6_method_17_code 56 = .ok (.getfield 153, 3) := by decide +kernel
theorem d_X4_findBefore_59 : decode prog_6_method_17_code 59 = .ok (.ireturn, 1) := by decide +kernel
theorem d_X4_findBefore_20 : decode prog_6_method_17_code 20 = .ok (.aload_n 0, 1) := by decide +kernel
theorem d_X4_findBefore_21 : decode prog_6_method_17_code 21 = .ok (.getfield 53, 3) := by decide +kernel
theorem d_X4_findBefore_24 : decode prog_6_method_17_code 24 = .ok (.iload 4, 2) := by decide +kernel
theorem d_X4_findBefore_26 : decode prog_6_method_17_code 26 = .ok (.invokevirtual 112, 3) := by decide +kernel
theorem d_X4_findBefore_29 : decode prog_6_method_17_code 29 = .ok (.istore 5, 2) := by decide +kernel
theorem d_X4_findBefore_31 : decode prog_6_method_17_code 31 = .ok (.aload_n 0, 1) := by decide +kernel
theorem d_X4_findBefore_32 : decode prog_6_method_17_code 32 = .ok (.iload 5, 2) := by decide +kernel
theorem d_X4_findBefore_34 : decode prog_6_method_17_code 34 = .ok (.iload_n 2, 1) := by decide +kernel
theorem d_X4_findBefore_35 : decode prog_6_method_17_code 35 = .ok (.iload_n 3, 1) := by decide +kernel
theorem k_1157 : Cond.code ⟨"PinchedBill$Reckoner", "billIn", "(III)I"⟩ prog_6_method_3_code 4 (some .int) ∈ gd_tbl := gd_in 1157 (by decide +kernel) (by decide +kernel)
theorem k_1266 : Cond.methodLink "PinchedBill$Reckoner" 163 ⟨"PinchedBill$Reckoner", "billIn", "(III)I"⟩ ∈ gd_tbl := gd_in 1266 (by decide +kernel) (by decide +kernel)
theorem k_1155 : Cond.instanceMethod ⟨"PinchedBill$Reckoner", "billIn", "(III)I"⟩ ∈ gd_tbl := gd_in 1155 (by decide +kernel) (by decide +kernel)
theorem k_1156 : Cond.selects "PinchedBill$Reckoner" ⟨"PinchedBill$Reckoner", "billIn", "(III)I"⟩ ⟨"PinchedBill$Reckoner", "billIn", "(III)I"⟩ ∈ gd_tbl := gd_in 1156 (by decide +kernel) (by decide +kernel)
theorem kV_PinchedBill_Reckoner_163 : kV "PinchedBill$Reckoner" 163 ⟨"PinchedBill$Reckoner", "billIn", "(III)I"⟩ prog_6_method_3_code 4 (some .int) 3 := ⟨k_1266, k_1155, k_1156, k_136, k_1157, by decide, by decide, by decide +kernel⟩
theorem d_X4_findBefore_36 : decode prog_6_method_17_code 36 = .ok (.invokevirtual 163, 3) := by decide +kernel
theorem d_X4_findBefore_39 : decode prog_6_method_17_code 39 = .ok (.iload_n 1, 1) := by decide +kernel
theorem d_X4_findBefore_40 : decode prog_6_method_17_code 40 = .ok (.if_icmp .ne 9, 3) := by decide +kernel
theorem d_X4_findBefore_49 : decode prog_6_method_17_code 49 = .ok (.iinc 4 1, 3) := by decide +kernel
theorem d_X4_findBefore_52 : decode prog_6_method_17_code 52 = .ok (.goto (-44), 3) := by decide +kernel
theorem d_X4_findBefore_43 : decode prog_6_method_17_code 43 = .ok (.aload_n 0, 1) := by decide +kernel
theorem d_X4_findBefore_44 : decode prog_6_method_17_code 44 = .ok (.iload 5, 2) := by decide +kernel
theorem d_X4_findBefore_46 : decode prog_6_method_17_code 46 = .ok (.invokevirtual 160, 3) := by decide +kernel
theorem d_X4_startBoth_0 : decode prog_6_method_22_code 0 = .ok (.aload_n 0, 1) := by decide +kernel
theorem d_X4_startBoth_1 : decode prog_6_method_22_code 1 = .ok (.getfield 12, 3) := by decide +kernel
theorem d_X4_startBoth_4 : decode prog_6_method_22_code 4 = .ok (.iload_n 1, 1) := by decide +kernel
theorem d_X4_startBoth_5 : decode prog_6_method_22_code 5 = .ok (.invokevirtual 69, 3) := by decide +kernel
theorem d_X4_startBoth_8 : decode prog_6_method_22_code 8 = .ok (.aload_n 0, 1) := by decide +kernel
theorem d_X4_startBoth_9 : decode prog_6_method_22_code 9 = .ok (.getfield 18, 3) := by decide +kernel
theorem d_X4_startBoth_12 : decode prog_6_method_22_code 12 = .ok (.iload_n 2, 1) := by decide +kernel
theorem d_X4_startBoth_13 : decode prog_6_method_22_code 13 = .ok (.invokevirtual 69, 3) := by decide +kernel
theorem d_X4_startBoth_16 : decode prog_6_method_22_code 16 = .ok (.return_, 1) := by decide +kernel
theorem d_X4_areBothLaws_0 : decode prog_6_method_23_code 0 = .ok (.aload_n 0, 1) := by decide +kernel
theorem d_X4_areBothLaws_1 : decode prog_6_method_23_code 1 = .ok (.getfield 62, 3) := by decide +kernel
theorem d_X4_areBothLaws_4 : decode prog_6_method_23_code 4 = .ok (.aload_n 0, 1) := by decide +kernel
theorem d_X4_areBothLaws_5 : decode prog_6_method_23_code 5 = .ok (.getfield 12, 3) := by decide +kernel
theorem d_X4_areBothLaws_8 : decode prog_6_method_23_code 8 = .ok (.getfield 77, 3) := by decide +kernel
theorem d_X4_areBothLaws_11 : decode prog_6_method_23_code 11 = .ok (.iload_n 1, 1) := by decide +kernel
theorem d_X4_areBothLaws_12 : decode prog_6_method_23_code 12 = .ok (.invokevirtual 156, 3) := by decide +kernel
theorem d_X4_areBothLaws_15 : decode prog_6_method_23_code 15 = .ok (.ifCond .eq 25, 3) := by decide +kernel
theorem d_X4_areBothLaws_18 : decode prog_6_method_23_code 18 = .ok (.aload_n 0, 1) := by decide +kernel
theorem d_X4_areBothLaws_19 : decode prog_6_method_23_code 19 = .ok (.getfield 62, 3) := by decide +kernel
theorem d_X4_areBothLaws_22 : decode prog_6_method_23_code 22 = .ok (.aload_n 0, 1) := by decide +kernel
theorem d_X4_areBothLaws_23 : decode prog_6_method_23_code 23 = .ok (.getfield 18, 3) := by decide +kernel
theorem d_X4_areBothLaws_26 : decode prog_6_method_23_code 26 = .ok (.getfield 77, 3) := by decide +kernel
theorem d_X4_areBothLaws_29 : decode prog_6_method_23_code 29 = .ok (.iload_n 1, 1) := by decide +kernel
theorem d_X4_areBothLaws_30 : decode prog_6_method_23_code 30 = .ok (.invokevirtual 156, 3) := by decide +kernel
theorem d_X4_areBothLaws_33 : decode prog_6_method_23_code 33 = .ok (.ifCond .eq 7, 3) := by decide +kernel
theorem d_X4_areBothLaws_36 : decode prog_6_method_23_code 36 = .ok (.iconst 1, 1) := by decide +kernel
theorem d_X4_areBothLaws_37 : decode prog_6_method_23_code 37 = .ok (.goto 4, 3) := by decide +kernel
theorem d_X4_areBothLaws_41 : decode prog_6_method_23_code 41 = .ok (.ireturn, 1) := by decide +kernel
set_option maxHeartbeats 4000000 in
set_option maxRecDepth 100000 in
theorem c_howMany (l : Launch) (D : va_G) (ty : Nat → ClassId) (h0 : Nat) (ho : Nat) (lw : Nat) (l1 : Nat) (l2 : Nat) (l3 : Nat) (l4 : Nat) (w1 : Nat) (w2 : Nat) (m1 : Nat) (m2 : Nat) (m3 : Nat) (m4 : Nat) (m5 : Nat) (m6 : Nat) (m7 : Nat) (g1 : Nat) (g2 : Nat) (g3 : Nat) (e0 : Int32) (e1 : Int32) (e2 : Int32) (e4 : Int32) (e5 : Int32) (cm : Nat) (wb : Int32) (wk : Int32) (f : Nat → Int32) (v : Nat → Int32) (g : Nat → Int32) (er : Nat → Int32) (lr : Nat → Int32) (q : Nat) (hf : B01 f) (hcm : cm < 100000) (hmk : MK g cm) (hq : q < 10) : CC l D ty ⟨"PinchedBill$Reckoner", "howManyEndIn", "(II)I"⟩ prog_6_method_7_code 5 (some .int) 6 138 0 0 [.ref h0, .int (nI (100 * q)), .int 0] [(h0, eO 4 [.ref lw, .ref w1, .ref w2, .int e0, .int e1, .int e2, .ref ho, .ref m1, .int (nI cm), .ref m2, .ref m3, .int (-1), .ref m4, .int e4, .ref m5, .ref m6, .ref m7, .int e5]), (lw, eO 2 [.ref ho, .ref l1, .ref l2, .ref l3, .ref l4]), (ho, eO 0 [.int 0, .int 1, .int 0, .int 0, .int 0, .int 0, .int 0, .int 0, .int 0, .int 0, .ref g1, .ref g2, .ref g3]), (l1, eI (ty 0) 1000 f), (l3, eI (ty 0) 8 v), (w1, eO 7 [.int wb, .int wk]), (m1, eI (ty 0) 9000 g), (m2, eI (ty 0) 1000 er), (m3, eI (ty 0) 1000 lr)] (QI D ty (fun (r : Int32) (w : va_W) => 1 = r ∧ w = [])) := by
  refine CC_of (by decide) ?_
  intro p e s m below meth c A C hP hD hS
  obtain ⟨⟨hx, hb, hml, hown, hts⟩, hr, hlocks, hnm, hK, hE, hA, hZ⟩ := id C
  refine startW [.ref h0, .int (nI (100 * q)), .int 0] 5 (nle rfl) (lv := [(0, .ref h0), (1, .int (nI (100 * q))), (2, .int 0)]) rfl (fun ls hl => ?_)
  refine lv_aload_n hx hb d_X4_howManyEndIn_0 rfl (lv_at hl 0 rfl) ?_
  refine lv_iload_n hx hb d_X4_howManyEndIn_1 rfl (lv_at hl 2 rfl) ?_
  have ct_1 : Cut [(h0, eO 4 [.ref lw, .ref w1, .ref w2, .int e0, .int e1, .int e2, .ref ho, .ref m1, .int (nI cm), .ref m2, .ref m3, .int (-1), .ref m4, .int e4, .ref m5, .ref m6, .ref m7, .int e5]), (lw, eO 2 [.ref ho, .ref l1, .ref l2, .ref l3, .ref l4]), (ho, eO 0 [.int 0, .int 1, .int 0, .int 0, .int 0, .int 0, .int 0, .int 0, .int 0, .int 0, .ref g1, .ref g2, .ref g3]), (l1, eI (ty 0) 1000 f), (l3, eI (ty 0) 8 v), (w1, eO 7 [.int wb, .int wk]), (m1, eI (ty 0) 9000 g), (m2, eI (ty 0) 1000 er), (m3, eI (ty 0) 1000 lr)] [(h0, eO 4 [.ref lw, .ref w1, .ref w2, .int e0, .int e1, .int e2, .ref ho, .ref m1, .int (nI cm), .ref m2, .ref m3, .int (-1), .ref m4, .int e4, .ref m5, .ref m6, .ref m7, .int e5]), (lw, eO 2 [.ref ho, .ref l1, .ref l2, .ref l3, .ref l4]), (ho, eO 0 [.int 0, .int 1, .int 0, .int 0, .int 0, .int 0, .int 0, .int 0, .int 0, .int 0, .ref g1, .ref g2, .ref g3]), (l1, eI (ty 0) 1000 f), (l3, eI (ty 0) 8 v), (w1, eO 7 [.int wb, .int wk]), (m1, eI (ty 0) 9000 g), (m2, eI (ty 0) 1000 er), (m3, eI (ty 0) 1000 lr)] [] [0, 1, 2, 3, 4, 5, 6, 7, 8] [] := ⟨rfl, rfl, rfl, rfl, by decide⟩
  refine cont_V C hP hD hS ct_1 (run_V (As := [.int 0]) (rest := []) C hP hD hS ct_1 (c_settle l D ty h0 ho lw l1 l2 l3 l4 w1 w2 m1 m2 m3 m4 m5 m6 m7 g1 g2 g3 e0 e1 e2 e4 e5 cm wb wk f v g er lr hf hcm hmk) kV_PinchedBill_Reckoner_120 0 rfl rfl rfl rfl hl.1 rfl (nle rfl) d_X4_howManyEndIn_2 ⟨by decide, by decide, by decide, by decide⟩) (fun w_9 H locs hw_7 hP hD hS => ?_)
  obtain ⟨er9_2, lr9_3, f9_4, v9_5, z9_6, her9_10, hlr9_11, rfl⟩ := hw_7
  have hP : va_P D vwCl [(h0, eO 4 [.ref lw, .ref w1, .ref w2, .int (z9_6 0), .int (z9_6 1), .int e2, .ref ho, .ref m1, .int (z9_6 2), .ref m2, .ref m3, .int 0, .ref m4, .int e4, .ref m5, .ref m6, .ref m7, .int e5]), (ho, eO 0 [.int 0, .int 1, .int 0, .int 0, .int 0, .int 0, .int 0, .int 0, .int 0, .int 0, .ref g1, .ref g2, .ref g3]), (m2, eI (ty 0) 1000 er9_2), (m3, eI (ty 0) 1000 lr9_3)] H := hP
  have hD : va_D A [(h0, eO 4 [.ref lw, .ref w1, .ref w2, .int (z9_6 0), .int (z9_6 1), .int e2, .ref ho, .ref m1, .int (z9_6 2), .ref m2, .ref m3, .int 0, .ref m4, .int e4, .ref m5, .ref m6, .ref m7, .int e5]), (ho, eO 0 [.int 0, .int 1, .int 0, .int 0, .int 0, .int 0, .int 0, .int 0, .int 0, .int 0, .ref g1, .ref g2, .ref g3]), (m2, eI (ty 0) 1000 er9_2), (m3, eI (ty 0) 1000 lr9_3)] := hD
  refine lv_iconst (v := 0) hx hb d_X4_howManyEndIn_5 (by decide) ?_
  refine lv_istore_n (lv' := [(3, .int 0), (0, .ref h0), (1, .int (nI (100 * q))), (2, .int 0)]) hx hb d_X4_howManyEndIn_6 rfl hl (by decide) rfl (fun ls hl => ?_)
  refine lv_iconst (v := 0) hx hb d_X4_howManyEndIn_7 (by decide) ?_
  refine lv_istore (lv' := [(4, .int 0), (3, .int 0), (0, .ref h0), (1, .int (nI (100 * q))), (2, .int 0)]) hx hb d_X4_howManyEndIn_8 hl (by decide) rfl (fun ls hl => ?_)
  refine loopW2 (fun (i : Nat) (k : Nat) (H : Heap) (locs : List Loc) (ls : Array Slot) => (i ≤ 10) ∧ ((i ≤ q → k = 0) ∧ (q < i → k = 1)) ∧ va_P D vwCl [(h0, eO 4 [.ref lw, .ref w1, .ref w2, .int (z9_6 0), .int (z9_6 1), .int e2, .ref ho, .ref m1, .int (z9_6 2), .ref m2, .ref m3, .int 0, .ref m4, .int e4, .ref m5, .ref m6, .ref m7, .int e5]), (ho, eO 0 [.int 0, .int 1, .int 0, .int 0, .int 0, .int 0, .int 0, .int 0, .int 0, .int 0, .ref g1, .ref g2, .ref g3]), (m2, eI (ty 0) 1000 er9_2), (m3, eI (ty 0) 1000 lr9_3)] H ∧ va_D A [(h0, eO 4 [.ref lw, .ref w1, .ref w2, .int (z9_6 0), .int (z9_6 1), .int e2, .ref ho, .ref m1, .int (z9_6 2), .ref m2, .ref m3, .int 0, .ref m4, .int e4, .ref m5, .ref m6, .ref m7, .int e5]), (ho, eO 0 [.int 0, .int 1, .int 0, .int 0, .int 0, .int 0, .int 0, .int 0, .int 0, .int 0, .ref g1, .ref g2, .ref g3]), (m2, eI (ty 0) 1000 er9_2), (m3, eI (ty 0) 1000 lr9_3)] ∧ va_S A s.heap H locs ∧ lv_has ls 5 [(4, .int (nI i)), (3, .int (nI k)), (0, .ref h0), (1, .int (nI (100 * q))), (2, .int 0)]) (fun (i : Nat) (k : Nat) => 10 - i) ?_ 0 0 ⟨(by omega), (by omega), hP, hD, hS, lv_sub hl [0, 1, 2, 3, 4] rfl⟩
  intro i k H locs ls hI ih_12
  obtain ⟨hi, hk, hP, hD, hS, hl⟩ := hI
  refine lv_iload hx hb d_X4_howManyEndIn_10 (lv_at hl 0 rfl) ?_
  refine lv_aload_n hx hb d_X4_howManyEndIn_12 rfl (lv_at hl 2 rfl) ?_
  refine r_get (v := .ref ho) C hP 0 rfl rfl lay_X4 6 (by decide) k_416 rfl d_X4_howManyEndIn_13 ?_
  have ct_13 : Cut [(h0, eO 4 [.ref lw, .ref w1, .ref w2, .int (z9_6 0), .int (z9_6 1), .int e2, .ref ho, .ref m1, .int (z9_6 2), .ref m2, .ref m3, .int 0, .ref m4, .int e4, .ref m5, .ref m6, .ref m7, .int e5]), (ho, eO 0 [.int 0, .int 1, .int 0, .int 0, .int 0, .int 0, .int 0, .int 0, .int 0, .int 0, .ref g1, .ref g2, .ref g3]), (m2, eI (ty 0) 1000 er9_2), (m3, eI (ty 0) 1000 lr9_3)] [(ho, eO 0 [.int 0, .int 1, .int 0, .int 0, .int 0, .int 0, .int 0, .int 0, .int 0, .int 0, .ref g1, .ref g2, .ref g3])] [(h0, eO 4 [.ref lw, .ref w1, .ref w2, .int (z9_6 0), .int (z9_6 1), .int e2, .ref ho, .ref m1, .int (z9_6 2), .ref m2, .ref m3, .int 0, .ref m4, .int e4, .ref m5, .ref m6, .ref m7, .int e5]), (m2, eI (ty 0) 1000 er9_2), (m3, eI (ty 0) 1000 lr9_3)] [1] [0, 2, 3] := ⟨rfl, rfl, rfl, rfl, by decide⟩
  refine cont_I C hP hD hS ct_13 (run_V (As := []) (rest := [.int (nI i)]) C hP hD hS ct_13 (c_bills l D ty ho g1 g2 g3) kV_PinchedBill_Reckoner_107 1 rfl rfl rfl rfl hl.1 rfl (nle rfl) d_X4_howManyEndIn_16 ⟨by decide, by decide, by decide, by decide⟩) (fun r_15 w_16 H locs hw_14 hP hD hS => ?_)
  obtain ⟨rfl, rfl⟩ := hw_14
  have hP : va_P D vwCl [(h0, eO 4 [.ref lw, .ref w1, .ref w2, .int (z9_6 0), .int (z9_6 1), .int e2, .ref ho, .ref m1, .int (z9_6 2), .ref m2, .ref m3, .int 0, .ref m4, .int e4, .ref m5, .ref m6, .ref m7, .int e5]), (m2, eI (ty 0) 1000 er9_2), (m3, eI (ty 0) 1000 lr9_3), (ho, eO 0 [.int 0, .int 1, .int 0, .int 0, .int 0, .int 0, .int 0, .int 0, .int 0, .int 0, .ref g1, .ref g2, .ref g3])] H := hP
  have hD : va_D A [(h0, eO 4 [.ref lw, .ref w1, .ref w2, .int (z9_6 0), .int (z9_6 1), .int e2, .ref ho, .ref m1, .int (z9_6 2), .ref m2, .ref m3, .int 0, .ref m4, .int e4, .ref m5, .ref m6, .ref m7, .int e5]), (m2, eI (ty 0) 1000 er9_2), (m3, eI (ty 0) 1000 lr9_3), (ho, eO 0 [.int 0, .int 1, .int 0, .int 0, .int 0, .int 0, .int 0, .int 0, .int 0, .int 0, .ref g1, .ref g2, .ref g3])] := hD
  refine lv_icmp_ge (tgt := 42) hx hb d_X4_howManyEndIn_19 (by decide) (fun hc_17 => ?_) (fun hc_17 => ?_)
  · have hc_17 := un_le 10 i rfl rfl (by omega) (by omega) hc_17
    obtain rfl : i = 10 := by omega
    refine lv_iload_n hx hb d_X4_howManyEndIn_42 rfl (lv_at hl 1 rfl) ?_
    exact ret_I (w := []) C hP hD hS [] rfl rfl ⟨(Eq.symm (by obtain rfl : k = 1 := (by omega); rfl)), rfl⟩ (by decide) (by decide) d_X4_howManyEndIn_43
  · have hc_17 := un_nle 10 i rfl rfl (by omega) (by omega) hc_17
    refine lv_aload_n hx hb d_X4_howManyEndIn_22 rfl (lv_at hl 2 rfl) ?_
    refine r_get (v := .ref m2) C hP 0 rfl rfl lay_X4 9 (by decide) k_419 rfl d_X4_howManyEndIn_23 ?_
    refine lv_iload hx hb d_X4_howManyEndIn_26 (lv_at hl 0 rfl) ?_
    refine r_iald (v := (nI (i * 100))) C hP 1 rfl i rfl (by omega) (by decide) (her9_10 i (by omega)) d_X4_howManyEndIn_28 ?_
    refine lv_iload_n hx hb d_X4_howManyEndIn_29 rfl (lv_at hl 3 rfl) ?_
    refine lv_icmp_ne (tgt := 36) hx hb d_X4_howManyEndIn_30 (by decide) (fun hc_18 => ?_) (fun hc_18 => ?_)
    · have hc_18 := un_ne (i * 100) (100 * q) rfl rfl (by omega) (by omega) hc_18
      refine lv_iinc (v := (nI (i + 1))) (lv' := [(4, .int (nI (i + 1))), (3, .int (nI k)), (0, .ref h0), (1, .int (nI (100 * q))), (2, .int 0)]) (k := 0) hx hb d_X4_howManyEndIn_36 hl rfl (a_inc i 1 (i + 1) rfl rfl) (by decide) rfl (fun ls hl => ?_)
      refine lv_goto (tgt := 10) hx hb d_X4_howManyEndIn_39 (by decide) ?_
      exact ih_12 (i + 1) k _ _ _ (by omega) ⟨(by omega), (by omega), sub_P hP (is := [0, 3, 1, 2]) rfl, hD.sub [0, 3, 1, 2] (by decide) rfl, hS, lv_sub hl [0, 1, 2, 3, 4] rfl⟩
    · have hc_18 := un_eq (i * 100) (100 * q) rfl rfl (by omega) (by omega) hc_18
      refine lv_iinc (v := (nI (k + 1))) (lv' := [(3, .int (nI (k + 1))), (4, .int (nI i)), (0, .ref h0), (1, .int (nI (100 * q))), (2, .int 0)]) (k := 1) hx hb d_X4_howManyEndIn_33 hl rfl (a_inc k 1 (k + 1) rfl rfl) (by decide) rfl (fun ls hl => ?_)
      refine lv_iinc (v := (nI (i + 1))) (lv' := [(4, .int (nI (i + 1))), (3, .int (nI (k + 1))), (0, .ref h0), (1, .int (nI (100 * q))), (2, .int 0)]) (k := 1) hx hb d_X4_howManyEndIn_36 hl rfl (a_inc i 1 (i + 1) rfl rfl) (by decide) rfl (fun ls hl => ?_)
      refine lv_goto (tgt := 10) hx hb d_X4_howManyEndIn_39 (by decide) ?_
      exact ih_12 (i + 1) (k + 1) _ _ _ (by omega) ⟨(by omega), (by omega), sub_P hP (is := [0, 3, 1, 2]) rfl, hD.sub [0, 3, 1, 2] (by decide) rfl, hS, lv_sub hl [0, 1, 2, 3, 4] rfl⟩
set_option maxHeartbeats 4000000 in
set_option maxRecDepth 100000 in
theorem c_howManyN (l : Launch) (D : va_G) (ty : Nat → ClassId) (h0 : Nat) (ho : Nat) (lw : Nat) (l1 : Nat) (l2 : Nat) (l3 : Nat) (l4 : Nat) (w1 : Nat) (w2 : Nat) (m1 : Nat) (m2 : Nat) (m3 : Nat) (m4 : Nat) (m5 : Nat) (m6 : Nat) (m7 : Nat) (g1 : Nat) (g2 : Nat) (g3 : Nat) (e0 : Int32) (e1 : Int32) (e2 : Int32) (e4 : Int32) (e5 : Int32) (cm : Nat) (wb : Int32) (wk : Int32) (f : Nat → Int32) (v : Nat → Int32) (g : Nat → Int32) (er : Nat → Int32) (lr : Nat → Int32) (hf : B01 f) (hcm : cm < 100000) (hmk : MK g cm) : CC l D ty ⟨"PinchedBill$Reckoner", "howManyEndIn", "(II)I"⟩ prog_6_method_7_code 5 (some .int) 6 138 0 0 [.ref h0, .int (-1), .int 0] [(h0, eO 4 [.ref lw, .ref w1, .ref w2, .int e0, .int e1, .int e2, .ref ho, .ref m1, .int (nI cm), .ref m2, .ref m3, .int (-1), .ref m4, .int e4, .ref m5, .ref m6, .ref m7, .int e5]), (lw, eO 2 [.ref ho, .ref l1, .ref l2, .ref l3, .ref l4]), (ho, eO 0 [.int 0, .int 1, .int 0, .int 0, .int 0, .int 0, .int 0, .int 0, .int 0, .int 0, .ref g1, .ref g2, .ref g3]), (l1, eI (ty 0) 1000 f), (l3, eI (ty 0) 8 v), (w1, eO 7 [.int wb, .int wk]), (m1, eI (ty 0) 9000 g), (m2, eI (ty 0) 1000 er), (m3, eI (ty 0) 1000 lr)] (QI D ty (fun (r : Int32) (w : va_W) => 0 = r ∧ w = [])) := by
  refine CC_of (by decide) ?_
  intro p e s m below meth c A C hP hD hS
  obtain ⟨⟨hx, hb, hml, hown, hts⟩, hr, hlocks, hnm, hK, hE, hA, hZ⟩ := id C
  refine startW [.ref h0, .int (-1), .int 0] 5 (nle rfl) (lv := [(0, .ref h0), (1, .int (-1)), (2, .int 0)]) rfl (fun ls hl => ?_)
  refine lv_aload_n hx hb d_X4_howManyEndIn_0 rfl (lv_at hl 0 rfl) ?_
  refine lv_iload_n hx hb d_X4_howManyEndIn_1 rfl (lv_at hl 2 rfl) ?_
  have ct_1 : Cut [(h0, eO 4 [.ref lw, .ref w1, .ref w2, .int e0, .int e1, .int e2, .ref ho, .ref m1, .int (nI cm), .ref m2, .ref m3, .int (-1), .ref m4, .int e4, .ref m5, .ref m6, .ref m7, .int e5]), (lw, eO 2 [.ref ho, .ref l1, .ref l2, .ref l3, .ref l4]), (ho, eO 0 [.int 0, .int 1, .int 0, .int 0, .int 0, .int 0, .int 0, .int 0, .int 0, .int 0, .ref g1, .ref g2, .ref g3]), (l1, eI (ty 0) 1000 f), (l3, eI (ty 0) 8 v), (w1, eO 7 [.int wb, .int wk]), (m1, eI (ty 0) 9000 g), (m2, eI (ty 0) 1000 er), (m3, eI (ty 0) 1000 lr)] [(h0, eO 4 [.ref lw, .ref w1, .ref w2, .int e0, .int e1, .int e2, .ref ho, .ref m1, .int (nI cm), .ref m2, .ref m3, .int (-1), .ref m4, .int e4, .ref m5, .ref m6, .ref m7, .int e5]), (lw, eO 2 [.ref ho, .ref l1, .ref l2, .ref l3, .ref l4]), (ho, eO 0 [.int 0, .int 1, .int 0, .int 0, .int 0, .int 0, .int 0, .int 0, .int 0, .int 0, .ref g1, .ref g2, .ref g3]), (l1, eI (ty 0) 1000 f), (l3, eI (ty 0) 8 v), (w1, eO 7 [.int wb, .int wk]), (m1, eI (ty 0) 9000 g), (m2, eI (ty 0) 1000 er), (m3, eI (ty 0) 1000 lr)] [] [0, 1, 2, 3, 4, 5, 6, 7, 8] [] := ⟨rfl, rfl, rfl, rfl, by decide⟩
  refine cont_V C hP hD hS ct_1 (run_V (As := [.int 0]) (rest := []) C hP hD hS ct_1 (c_settle l D ty h0 ho lw l1 l2 l3 l4 w1 w2 m1 m2 m3 m4 m5 m6 m7 g1 g2 g3 e0 e1 e2 e4 e5 cm wb wk f v g er lr hf hcm hmk) kV_PinchedBill_Reckoner_120 0 rfl rfl rfl rfl hl.1 rfl (nle rfl) d_X4_howManyEndIn_2 ⟨by decide, by decide, by decide, by decide⟩) (fun w_9 H locs hw_7 hP hD hS => ?_)
  obtain ⟨er9_2, lr9_3, f9_4, v9_5, z9_6, her9_10, hlr9_11, rfl⟩ := hw_7
  have hP : va_P D vwCl [(h0, eO 4 [.ref lw, .ref w1, .ref w2, .int (z9_6 0), .int (z9_6 1), .int e2, .ref ho, .ref m1, .int (z9_6 2), .ref m2, .ref m3, .int 0, .ref m4, .int e4, .ref m5, .ref m6, .ref m7, .int e5]), (ho, eO 0 [.int 0, .int 1, .int 0, .int 0, .int 0, .int 0, .int 0, .int 0, .int 0, .int 0, .ref g1, .ref g2, .ref g3]), (m2, eI (ty 0) 1000 er9_2), (m3, eI (ty 0) 1000 lr9_3)] H := hP
  have hD : va_D A [(h0, eO 4 [.ref lw, .ref w1, .ref w2, .int (z9_6 0), .int (z9_6 1), .int e2, .ref ho, .ref m1, .int (z9_6 2), .ref m2, .ref m3, .int 0, .ref m4, .int e4, .ref m5, .ref m6, .ref m7, .int e5]), (ho, eO 0 [.int 0, .int 1, .int 0, .int 0, .int 0, .int 0, .int 0, .int 0, .int 0, .int 0, .ref g1, .ref g2, .ref g3]), (m2, eI (ty 0) 1000 er9_2), (m3, eI (ty 0) 1000 lr9_3)] := hD
  refine lv_iconst (v := 0) hx hb d_X4_howManyEndIn_5 (by decide) ?_
  refine lv_istore_n (lv' := [(3, .int 0), (0, .ref h0), (1, .int (-1)), (2, .int 0)]) hx hb d_X4_howManyEndIn_6 rfl hl (by decide) rfl (fun ls hl => ?_)
  refine lv_iconst (v := 0) hx hb d_X4_howManyEndIn_7 (by decide) ?_
  refine lv_istore (lv' := [(4, .int 0), (3, .int 0), (0, .ref h0), (1, .int (-1)), (2, .int 0)]) hx hb d_X4_howManyEndIn_8 hl (by decide) rfl (fun ls hl => ?_)
  refine loopW1 (fun (i : Nat) (H : Heap) (locs : List Loc) (ls : Array Slot) => (i ≤ 10) ∧ va_P D vwCl [(h0, eO 4 [.ref lw, .ref w1, .ref w2, .int (z9_6 0), .int (z9_6 1), .int e2, .ref ho, .ref m1, .int (z9_6 2), .ref m2, .ref m3, .int 0, .ref m4, .int e4, .ref m5, .ref m6, .ref m7, .int e5]), (ho, eO 0 [.int 0, .int 1, .int 0, .int 0, .int 0, .int 0, .int 0, .int 0, .int 0, .int 0, .ref g1, .ref g2, .ref g3]), (m2, eI (ty 0) 1000 er9_2), (m3, eI (ty 0) 1000 lr9_3)] H ∧ va_D A [(h0, eO 4 [.ref lw, .ref w1, .ref w2, .int (z9_6 0), .int (z9_6 1), .int e2, .ref ho, .ref m1, .int (z9_6 2), .ref m2, .ref m3, .int 0, .ref m4, .int e4, .ref m5, .ref m6, .ref m7, .int e5]), (ho, eO 0 [.int 0, .int 1, .int 0, .int 0, .int 0, .int 0, .int 0, .int 0, .int 0, .int 0, .ref g1, .ref g2, .ref g3]), (m2, eI (ty 0) 1000 er9_2), (m3, eI (ty 0) 1000 lr9_3)] ∧ va_S A s.heap H locs ∧ lv_has ls 5 [(4, .int (nI i)), (3, .int 0), (0, .ref h0), (1, .int (-1)), (2, .int 0)]) (fun (i : Nat) => 10 - i) ?_ 0 ⟨(by omega), hP, hD, hS, lv_sub hl [0, 1, 2, 3, 4] rfl⟩
  intro i H locs ls hI ih_12
  obtain ⟨hi, hP, hD, hS, hl⟩ := hI
  refine lv_iload hx hb d_X4_howManyEndIn_10 (lv_at hl 0 rfl) ?_
  refine lv_aload_n hx hb d_X4_howManyEndIn_12 rfl (lv_at hl 2 rfl) ?_
  refine r_get (v := .ref ho) C hP 0 rfl rfl lay_X4 6 (by decide) k_416 rfl d_X4_howManyEndIn_13 ?_
  have ct_13 : Cut [(h0, eO 4 [.ref lw, .ref w1, .ref w2, .int (z9_6 0), .int (z9_6 1), .int e2, .ref ho, .ref m1, .int (z9_6 2), .ref m2, .ref m3, .int 0, .ref m4, .int e4, .ref m5, .ref m6, .ref m7, .int e5]), (ho, eO 0 [.int 0, .int 1, .int 0, .int 0, .int 0, .int 0, .int 0, .int 0, .int 0, .int 0, .ref g1, .ref g2, .ref g3]), (m2, eI (ty 0) 1000 er9_2), (m3, eI (ty 0) 1000 lr9_3)] [(ho, eO 0 [.int 0, .int 1, .int 0, .int 0, .int 0, .int 0, .int 0, .int 0, .int 0, .int 0, .ref g1, .ref g2, .ref g3])] [(h0, eO 4 [.ref lw, .ref w1, .ref w2, .int (z9_6 0), .int (z9_6 1), .int e2, .ref ho, .ref m1, .int (z9_6 2), .ref m2, .ref m3, .int 0, .ref m4, .int e4, .ref m5, .ref m6, .ref m7, .int e5]), (m2, eI (ty 0) 1000 er9_2), (m3, eI (ty 0) 1000 lr9_3)] [1] [0, 2, 3] := ⟨rfl, rfl, rfl, rfl, by decide⟩
  refine cont_I C hP hD hS ct_13 (run_V (As := []) (rest := [.int (nI i)]) C hP hD hS ct_13 (c_bills l D ty ho g1 g2 g3) kV_PinchedBill_Reckoner_107 1 rfl rfl rfl rfl hl.1 rfl (nle rfl) d_X4_howManyEndIn_16 ⟨by decide, by decide, by decide, by decide⟩) (fun r_15 w_16 H locs hw_14 hP hD hS => ?_)
  obtain ⟨rfl, rfl⟩ := hw_14
  have hP : va_P D vwCl [(h0, eO 4 [.ref lw, .ref w1, .ref w2, .int (z9_6 0), .int (z9_6 1), .int e2, .ref ho, .ref m1, .int (z9_6 2), .ref m2, .ref m3, .int 0, .ref m4, .int e4, .ref m5, .ref m6, .ref m7, .int e5]), (m2, eI (ty 0) 1000 er9_2), (m3, eI (ty 0) 1000 lr9_3), (ho, eO 0 [.int 0, .int 1, .int 0, .int 0, .int 0, .int 0, .int 0, .int 0, .int 0, .int 0, .ref g1, .ref g2, .ref g3])] H := hP
  have hD : va_D A [(h0, eO 4 [.ref lw, .ref w1, .ref w2, .int (z9_6 0), .int (z9_6 1), .int e2, .ref ho, .ref m1, .int (z9_6 2), .ref m2, .ref m3, .int 0, .ref m4, .int e4, .ref m5, .ref m6, .ref m7, .int e5]), (m2, eI (ty 0) 1000 er9_2), (m3, eI (ty 0) 1000 lr9_3), (ho, eO 0 [.int 0, .int 1, .int 0, .int 0, .int 0, .int 0, .int 0, .int 0, .int 0, .int 0, .ref g1, .ref g2, .ref g3])] := hD
  refine lv_icmp_ge (tgt := 42) hx hb d_X4_howManyEndIn_19 (by decide) (fun hc_17 => ?_) (fun hc_17 => ?_)
  · have hc_17 := un_le 10 i rfl rfl (by omega) (by omega) hc_17
    obtain rfl : i = 10 := by omega
    refine lv_iload_n hx hb d_X4_howManyEndIn_42 rfl (lv_at hl 1 rfl) ?_
    exact ret_I (w := []) C hP hD hS [] rfl rfl ⟨rfl, rfl⟩ (by decide) (by decide) d_X4_howManyEndIn_43
  · have hc_17 := un_nle 10 i rfl rfl (by omega) (by omega) hc_17
    refine lv_aload_n hx hb d_X4_howManyEndIn_22 rfl (lv_at hl 2 rfl) ?_
    refine r_get (v := .ref m2) C hP 0 rfl rfl lay_X4 9 (by decide) k_419 rfl d_X4_howManyEndIn_23 ?_
    refine lv_iload hx hb d_X4_howManyEndIn_26 (lv_at hl 0 rfl) ?_
    refine r_iald (v := (nI (i * 100))) C hP 1 rfl i rfl (by omega) (by decide) (her9_10 i (by omega)) d_X4_howManyEndIn_28 ?_
    refine lv_iload_n hx hb d_X4_howManyEndIn_29 rfl (lv_at hl 3 rfl) ?_
    refine b_icmp_neT C 36 d_X4_howManyEndIn_30 (by decide) (n_neneg (i * 100) rfl (by omega) (by decide)) ?_
    refine lv_iinc (v := (nI (i + 1))) (lv' := [(4, .int (nI (i + 1))), (3, .int 0), (0, .ref h0), (1, .int (-1)), (2, .int 0)]) (k := 0) hx hb d_X4_howManyEndIn_36 hl rfl (a_inc i 1 (i + 1) rfl rfl) (by decide) rfl (fun ls hl => ?_)
    refine lv_goto (tgt := 10) hx hb d_X4_howManyEndIn_39 (by decide) ?_
    exact ih_12 (i + 1) _ _ _ (by omega) ⟨(by omega), sub_P hP (is := [0, 3, 1, 2]) rfl, hD.sub [0, 3, 1, 2] (by decide) rfl, hS, lv_sub hl [0, 1, 2, 3, 4] rfl⟩
set_option maxHeartbeats 4000000 in
set_option maxRecDepth 100000 in
theorem c_longest (l : Launch) (D : va_G) (ty : Nat → ClassId) (h0 : Nat) (ho : Nat) (lw : Nat) (l1 : Nat) (l2 : Nat) (l3 : Nat) (l4 : Nat) (w1 : Nat) (w2 : Nat) (m1 : Nat) (m2 : Nat) (m3 : Nat) (m4 : Nat) (m5 : Nat) (m6 : Nat) (m7 : Nat) (g1 : Nat) (g2 : Nat) (g3 : Nat) (e0 : Int32) (e1 : Int32) (e2 : Int32) (e4 : Int32) (e5 : Int32) (cm : Nat) (wb : Int32) (wk : Int32) (f : Nat → Int32) (v : Nat → Int32) (g : Nat → Int32) (er : Nat → Int32) (lr : Nat → Int32) (hf : B01 f) (hcm : cm < 100000) (hmk : MK g cm) : CC l D ty ⟨"PinchedBill$Reckoner", "longestWay", "(I)I"⟩ prog_6_method_8_code 5 (some .int) 6 138 0 0 [.ref h0, .int 0] [(h0, eO 4 [.ref lw, .ref w1, .ref w2, .int e0, .int e1, .int e2, .ref ho, .ref m1, .int (nI cm), .ref m2, .ref m3, .int (-1), .ref m4, .int e4, .ref m5, .ref m6, .ref m7, .int e5]), (lw, eO 2 [.ref ho, .ref l1, .ref l2, .ref l3, .ref l4]), (ho, eO 0 [.int 0, .int 1, .int 0, .int 0, .int 0, .int 0, .int 0, .int 0, .int 0, .int 0, .ref g1, .ref g2, .ref g3]), (l1, eI (ty 0) 1000 f), (l3, eI (ty 0) 8 v), (w1, eO 7 [.int wb, .int wk]), (m1, eI (ty 0) 9000 g), (m2, eI (ty 0) 1000 er), (m3, eI (ty 0) 1000 lr)] (QI D ty (fun (r : Int32) (w : va_W) => 0 = r ∧ w = [])) := by
  refine CC_of (by decide) ?_
  intro p e s m below meth c A C hP hD hS
  obtain ⟨⟨hx, hb, hml, hown, hts⟩, hr, hlocks, hnm, hK, hE, hA, hZ⟩ := id C
  refine startW [.ref h0, .int 0] 5 (nle rfl) (lv := [(0, .ref h0), (1, .int 0)]) rfl (fun ls hl => ?_)
  refine lv_aload_n hx hb d_X4_longestWay_0 rfl (lv_at hl 0 rfl) ?_
  refine lv_iload_n hx hb d_X4_longestWay_1 rfl (lv_at hl 1 rfl) ?_
  have ct_1 : Cut [(h0, eO 4 [.ref lw, .ref w1, .ref w2, .int e0, .int e1, .int e2, .ref ho, .ref m1, .int (nI cm), .ref m2, .ref m3, .int (-1), .ref m4, .int e4, .ref m5, .ref m6, .ref m7, .int e5]), (lw, eO 2 [.ref ho, .ref l1, .ref l2, .ref l3, .ref l4]), (ho, eO 0 [.int 0, .int 1, .int 0, .int 0, .int 0, .int 0, .int 0, .int 0, .int 0, .int 0, .ref g1, .ref g2, .ref g3]), (l1, eI (ty 0) 1000 f), (l3, eI (ty 0) 8 v), (w1, eO 7 [.int wb, .int wk]), (m1, eI (ty 0) 9000 g), (m2, eI (ty 0) 1000 er), (m3, eI (ty 0) 1000 lr)] [(h0, eO 4 [.ref lw, .ref w1, .ref w2, .int e0, .int e1, .int e2, .ref ho, .ref m1, .int (nI cm), .ref m2, .ref m3, .int (-1), .ref m4, .int e4, .ref m5, .ref m6, .ref m7, .int e5]), (lw, eO 2 [.ref ho, .ref l1, .ref l2, .ref l3, .ref l4]), (ho, eO 0 [.int 0, .int 1, .int 0, .int 0, .int 0, .int 0, .int 0, .int 0, .int 0, .int 0, .ref g1, .ref g2, .ref g3]), (l1, eI (ty 0) 1000 f), (l3, eI (ty 0) 8 v), (w1, eO 7 [.int wb, .int wk]), (m1, eI (ty 0) 9000 g), (m2, eI (ty 0) 1000 er), (m3, eI (ty 0) 1000 lr)] [] [0, 1, 2, 3, 4, 5, 6, 7, 8] [] := ⟨rfl, rfl, rfl, rfl, by decide⟩
  refine cont_V C hP hD hS ct_1 (run_V (As := [.int 0]) (rest := []) C hP hD hS ct_1 (c_settle l D ty h0 ho lw l1 l2 l3 l4 w1 w2 m1 m2 m3 m4 m5 m6 m7 g1 g2 g3 e0 e1 e2 e4 e5 cm wb wk f v g er lr hf hcm hmk) kV_PinchedBill_Reckoner_120 0 rfl rfl rfl rfl hl.1 rfl (nle rfl) d_X4_longestWay_2 ⟨by decide, by decide, by decide, by decide⟩) (fun w_9 H locs hw_7 hP hD hS => ?_)
  obtain ⟨er9_2, lr9_3, f9_4, v9_5, z9_6, her9_10, hlr9_11, rfl⟩ := hw_7
  have hP : va_P D vwCl [(h0, eO 4 [.ref lw, .ref w1, .ref w2, .int (z9_6 0), .int (z9_6 1), .int e2, .ref ho, .ref m1, .int (z9_6 2), .ref m2, .ref m3, .int 0, .ref m4, .int e4, .ref m5, .ref m6, .ref m7, .int e5]), (ho, eO 0 [.int 0, .int 1, .int 0, .int 0, .int 0, .int 0, .int 0, .int 0, .int 0, .int 0, .ref g1, .ref g2, .ref g3]), (m2, eI (ty 0) 1000 er9_2), (m3, eI (ty 0) 1000 lr9_3)] H := hP
  have hD : va_D A [(h0, eO 4 [.ref lw, .ref w1, .ref w2, .int (z9_6 0), .int (z9_6 1), .int e2, .ref ho, .ref m1, .int (z9_6 2), .ref m2, .ref m3, .int 0, .ref m4, .int e4, .ref m5, .ref m6, .ref m7, .int e5]), (ho, eO 0 [.int 0, .int 1, .int 0, .int 0, .int 0, .int 0, .int 0, .int 0, .int 0, .int 0, .ref g1, .ref g2, .ref g3]), (m2, eI (ty 0) 1000 er9_2), (m3, eI (ty 0) 1000 lr9_3)] := hD
  refine lv_iconst (v := (-1)) hx hb d_X4_longestWay_5 (by decide) ?_
  refine lv_istore_n (lv' := [(2, .int (-1)), (0, .ref h0), (1, .int 0)]) hx hb d_X4_longestWay_6 rfl hl (by decide) rfl (fun ls hl => ?_)
  refine lv_iconst (v := (-1)) hx hb d_X4_longestWay_7 (by decide) ?_
  refine lv_istore_n (lv' := [(3, .int (-1)), (2, .int (-1)), (0, .ref h0), (1, .int 0)]) hx hb d_X4_longestWay_8 rfl hl (by decide) rfl (fun ls hl => ?_)
  refine lv_iconst (v := 0) hx hb d_X4_longestWay_9 (by decide) ?_
  refine lv_istore (lv' := [(4, .int 0), (3, .int (-1)), (2, .int (-1)), (0, .ref h0), (1, .int 0)]) hx hb d_X4_longestWay_10 hl (by decide) rfl (fun ls hl => ?_)
  refine lv_iload hx hb d_X4_longestWay_12 (lv_at hl 0 rfl) ?_
  refine lv_aload_n hx hb d_X4_longestWay_14 rfl (lv_at hl 3 rfl) ?_
  refine r_get (v := .ref ho) C hP 0 rfl rfl lay_X4 6 (by decide) k_416 rfl d_X4_longestWay_15 ?_
  have ct_12 : Cut [(h0, eO 4 [.ref lw, .ref w1, .ref w2, .int (z9_6 0), .int (z9_6 1), .int e2, .ref ho, .ref m1, .int (z9_6 2), .ref m2, .ref m3, .int 0, .ref m4, .int e4, .ref m5, .ref m6, .ref m7, .int e5]), (ho, eO 0 [.int 0, .int 1, .int 0, .int 0, .int 0, .int 0, .int 0, .int 0, .int 0, .int 0, .ref g1, .ref g2, .ref g3]), (m2, eI (ty 0) 1000 er9_2), (m3, eI (ty 0) 1000 lr9_3)] [(ho, eO 0 [.int 0, .int 1, .int 0, .int 0, .int 0, .int 0, .int 0, .int 0, .int 0, .int 0, .ref g1, .ref g2, .ref g3])] [(h0, eO 4 [.ref lw, .ref w1, .ref w2, .int (z9_6 0), .int (z9_6 1), .int e2, .ref ho, .ref m1, .int (z9_6 2), .ref m2, .ref m3, .int 0, .ref m4, .int e4, .ref m5, .ref m6, .ref m7, .int e5]), (m2, eI (ty 0) 1000 er9_2), (m3, eI (ty 0) 1000 lr9_3)] [1] [0, 2, 3] := ⟨rfl, rfl, rfl, rfl, by decide⟩
  refine cont_I C hP hD hS ct_12 (run_V (As := []) (rest := [.int 0]) C hP hD hS ct_12 (c_bills l D ty ho g1 g2 g3) kV_PinchedBill_Reckoner_107 1 rfl rfl rfl rfl hl.1 rfl (nle rfl) d_X4_longestWay_18 ⟨by decide, by decide, by decide, by decide⟩) (fun r_14 w_15 H locs hw_13 hP hD hS => ?_)
  obtain ⟨rfl, rfl⟩ := hw_13
  have hP : va_P D vwCl [(h0, eO 4 [.ref lw, .ref w1, .ref w2, .int (z9_6 0), .int (z9_6 1), .int e2, .ref ho, .ref m1, .int (z9_6 2), .ref m2, .ref m3, .int 0, .ref m4, .int e4, .ref m5, .ref m6, .ref m7, .int e5]), (m2, eI (ty 0) 1000 er9_2), (m3, eI (ty 0) 1000 lr9_3), (ho, eO 0 [.int 0, .int 1, .int 0, .int 0, .int 0, .int 0, .int 0, .int 0, .int 0, .int 0, .ref g1, .ref g2, .ref g3])] H := hP
  have hD : va_D A [(h0, eO 4 [.ref lw, .ref w1, .ref w2, .int (z9_6 0), .int (z9_6 1), .int e2, .ref ho, .ref m1, .int (z9_6 2), .ref m2, .ref m3, .int 0, .ref m4, .int e4, .ref m5, .ref m6, .ref m7, .int e5]), (m2, eI (ty 0) 1000 er9_2), (m3, eI (ty 0) 1000 lr9_3), (ho, eO 0 [.int 0, .int 1, .int 0, .int 0, .int 0, .int 0, .int 0, .int 0, .int 0, .int 0, .ref g1, .ref g2, .ref g3])] := hD
  refine b_icmp_geF C 70 d_X4_longestWay_21 (by decide) (by decide) ?_
  refine lv_aload_n hx hb d_X4_longestWay_24 rfl (lv_at hl 3 rfl) ?_
  refine r_get (v := .ref m2) C hP 0 rfl rfl lay_X4 9 (by decide) k_419 rfl d_X4_longestWay_25 ?_
  refine lv_iload hx hb d_X4_longestWay_28 (lv_at hl 0 rfl) ?_
  refine r_iald (v := 0) C hP 1 rfl 0 rfl (by decide) (by decide) (her9_10 0 (by omega)) d_X4_longestWay_30 ?_
  refine lv_iconst (v := (-1)) hx hb d_X4_longestWay_31 (by decide) ?_
  refine b_icmp_eqF C 64 d_X4_longestWay_32 (by decide) (by decide) ?_
  refine lv_aload_n hx hb d_X4_longestWay_35 rfl (lv_at hl 3 rfl) ?_
  refine r_get (v := .ref m3) C hP 0 rfl rfl lay_X4 10 (by decide) k_420 rfl d_X4_longestWay_36 ?_
  refine lv_iload hx hb d_X4_longestWay_39 (lv_at hl 0 rfl) ?_
  refine r_iald (v := 0) C hP 2 rfl 0 rfl (by decide) (by decide) (hlr9_11 0 (by omega)) d_X4_longestWay_41 ?_
  refine lv_iload_n hx hb d_X4_longestWay_42 rfl (lv_at hl 1 rfl) ?_
  refine b_icmp_leF C 64 d_X4_longestWay_43 (by decide) (by decide) ?_
  refine lv_aload_n hx hb d_X4_longestWay_46 rfl (lv_at hl 3 rfl) ?_
  refine r_get (v := .ref ho) C hP 0 rfl rfl lay_X4 6 (by decide) k_416 rfl d_X4_longestWay_47 ?_
  refine lv_iload hx hb d_X4_longestWay_50 (lv_at hl 0 rfl) ?_
  have ct_16 : Cut [(h0, eO 4 [.ref lw, .ref w1, .ref w2, .int (z9_6 0), .int (z9_6 1), .int e2, .ref ho, .ref m1, .int (z9_6 2), .ref m2, .ref m3, .int 0, .ref m4, .int e4, .ref m5, .ref m6, .ref m7, .int e5]), (m2, eI (ty 0) 1000 er9_2), (m3, eI (ty 0) 1000 lr9_3), (ho, eO 0 [.int 0, .int 1, .int 0, .int 0, .int 0, .int 0, .int 0, .int 0, .int 0, .int 0, .ref g1, .ref g2, .ref g3])] [(ho, eO 0 [.int 0, .int 1, .int 0, .int 0, .int 0, .int 0, .int 0, .int 0, .int 0, .int 0, .ref g1, .ref g2, .ref g3])] [(h0, eO 4 [.ref lw, .ref w1, .ref w2, .int (z9_6 0), .int (z9_6 1), .int e2, .ref ho, .ref m1, .int (z9_6 2), .ref m2, .ref m3, .int 0, .ref m4, .int e4, .ref m5, .ref m6, .ref m7, .int e5]), (m2, eI (ty 0) 1000 er9_2), (m3, eI (ty 0) 1000 lr9_3)] [3] [0, 1, 2] := ⟨rfl, rfl, rfl, rfl, by decide⟩
  refine cont_I C hP hD hS ct_16 (run_V (As := [.int 0]) (rest := []) C hP hD hS ct_16 (c_billAt l D ty ho g1 g2 g3 0 (by omega)) kV_PinchedBill_Reckoner_112 3 rfl rfl rfl rfl hl.1 rfl (nle rfl) d_X4_longestWay_52 ⟨by decide, by decide, by decide, by decide⟩) (fun r_18 w_19 H locs hw_17 hP hD hS => ?_)
  obtain ⟨rfl, rfl⟩ := hw_17
  have hP : va_P D vwCl [(h0, eO 4 [.ref lw, .ref w1, .ref w2, .int (z9_6 0), .int (z9_6 1), .int e2, .ref ho, .ref m1, .int (z9_6 2), .ref m2, .ref m3, .int 0, .ref m4, .int e4, .ref m5, .ref m6, .ref m7, .int e5]), (m2, eI (ty 0) 1000 er9_2), (m3, eI (ty 0) 1000 lr9_3), (ho, eO 0 [.int 0, .int 1, .int 0, .int 0, .int 0, .int 0, .int 0, .int 0, .int 0, .int 0, .ref g1, .ref g2, .ref g3])] H := hP
  have hD : va_D A [(h0, eO 4 [.ref lw, .ref w1, .ref w2, .int (z9_6 0), .int (z9_6 1), .int e2, .ref ho, .ref m1, .int (z9_6 2), .ref m2, .ref m3, .int 0, .ref m4, .int e4, .ref m5, .ref m6, .ref m7, .int e5]), (m2, eI (ty 0) 1000 er9_2), (m3, eI (ty 0) 1000 lr9_3), (ho, eO 0 [.int 0, .int 1, .int 0, .int 0, .int 0, .int 0, .int 0, .int 0, .int 0, .int 0, .ref g1, .ref g2, .ref g3])] := hD
  refine lv_istore_n (lv' := [(2, .int 0), (4, .int 0), (3, .int (-1)), (0, .ref h0), (1, .int 0)]) hx hb d_X4_longestWay_55 rfl hl (by decide) rfl (fun ls hl => ?_)
  refine lv_aload_n hx hb d_X4_longestWay_56 rfl (lv_at hl 3 rfl) ?_
  refine r_get (v := .ref m3) C hP 0 rfl rfl lay_X4 10 (by decide) k_420 rfl d_X4_longestWay_57 ?_
  refine lv_iload hx hb d_X4_longestWay_60 (lv_at hl 1 rfl) ?_
  refine r_iald (v := 0) C hP 2 rfl 0 rfl (by decide) (by decide) (hlr9_11 0 (by omega)) d_X4_longestWay_62 ?_
  refine lv_istore_n (lv' := [(3, .int 0), (2, .int 0), (4, .int 0), (0, .ref h0), (1, .int 0)]) hx hb d_X4_longestWay_63 rfl hl (by decide) rfl (fun ls hl => ?_)
  refine lv_iinc (v := 1) (lv' := [(4, .int 1), (3, .int 0), (2, .int 0), (0, .ref h0), (1, .int 0)]) (k := 2) hx hb d_X4_longestWay_64 hl rfl (by decide) (by decide) rfl (fun ls hl => ?_)
  refine lv_goto (tgt := 12) hx hb d_X4_longestWay_67 (by decide) ?_
  refine loopW1 (fun (i : Nat) (H : Heap) (locs : List Loc) (ls : Array Slot) => (i ≤ 10) ∧ (1 ≤ i) ∧ va_P D vwCl [(h0, eO 4 [.ref lw, .ref w1, .ref w2, .int (z9_6 0), .int (z9_6 1), .int e2, .ref ho, .ref m1, .int (z9_6 2), .ref m2, .ref m3, .int 0, .ref m4, .int e4, .ref m5, .ref m6, .ref m7, .int e5]), (m2, eI (ty 0) 1000 er9_2), (m3, eI (ty 0) 1000 lr9_3), (ho, eO 0 [.int 0, .int 1, .int 0, .int 0, .int 0, .int 0, .int 0, .int 0, .int 0, .int 0, .ref g1, .ref g2, .ref g3])] H ∧ va_D A [(h0, eO 4 [.ref lw, .ref w1, .ref w2, .int (z9_6 0), .int (z9_6 1), .int e2, .ref ho, .ref m1, .int (z9_6 2), .ref m2, .ref m3, .int 0, .ref m4, .int e4, .ref m5, .ref m6, .ref m7, .int e5]), (m2, eI (ty 0) 1000 er9_2), (m3, eI (ty 0) 1000 lr9_3), (ho, eO 0 [.int 0, .int 1, .int 0, .int 0, .int 0, .int 0, .int 0, .int 0, .int 0, .int 0, .ref g1, .ref g2, .ref g3])] ∧ va_S A s.heap H locs ∧ lv_has ls 5 [(4, .int (nI i)), (3, .int 0), (2, .int 0), (0, .ref h0), (1, .int 0)]) (fun (i : Nat) => 10 - i) ?_ 1 ⟨(by omega), (by omega), hP, hD, hS, lv_sub hl [0, 1, 2, 3, 4] rfl⟩
  intro i H locs ls hI ih_20
  obtain ⟨hi, hi1, hP, hD, hS, hl⟩ := hI
  refine lv_iload hx hb d_X4_longestWay_12 (lv_at hl 0 rfl) ?_
  refine lv_aload_n hx hb d_X4_longestWay_14 rfl (lv_at hl 3 rfl) ?_
  refine r_get (v := .ref ho) C hP 0 rfl rfl lay_X4 6 (by decide) k_416 rfl d_X4_longestWay_15 ?_
  have ct_21 : Cut [(h0, eO 4 [.ref lw, .ref w1, .ref w2, .int (z9_6 0), .int (z9_6 1), .int e2, .ref ho, .ref m1, .int (z9_6 2), .ref m2, .ref m3, .int 0, .ref m4, .int e4, .ref m5, .ref m6, .ref m7, .int e5]), (m2, eI (ty 0) 1000 er9_2), (m3, eI (ty 0) 1000 lr9_3), (ho, eO 0 [.int 0, .int 1, .int 0, .int 0, .int 0, .int 0, .int 0, .int 0, .int 0, .int 0, .ref g1, .ref g2, .ref g3])] [(ho, eO 0 [.int 0, .int 1, .int 0, .int 0, .int 0, .int 0, .int 0, .int 0, .int 0, .int 0, .ref g1, .ref g2, .ref g3])] [(h0, eO 4 [.ref lw, .ref w1, .ref w2, .int (z9_6 0), .int (z9_6 1), .int e2, .ref ho, .ref m1, .int (z9_6 2), .ref m2, .ref m3, .int 0, .ref m4, .int e4, .ref m5, .ref m6, .ref m7, .int e5]), (m2, eI (ty 0) 1000 er9_2), (m3, eI (ty 0) 1000 lr9_3)] [3] [0, 1, 2] := ⟨rfl, rfl, rfl, rfl, by decide⟩
  refine cont_I C hP hD hS ct_21 (run_V (As := []) (rest := [.int (nI i)]) C hP hD hS ct_21 (c_bills l D ty ho g1 g2 g3) kV_PinchedBill_Reckoner_107 3 rfl rfl rfl rfl hl.1 rfl (nle rfl) d_X4_longestWay_18 ⟨by decide, by decide, by decide, by decide⟩) (fun r_23 w_24 H locs hw_22 hP hD hS => ?_)
  obtain ⟨rfl, rfl⟩ := hw_22
  have hP : va_P D vwCl [(h0, eO 4 [.ref lw, .ref w1, .ref w2, .int (z9_6 0), .int (z9_6 1), .int e2, .ref ho, .ref m1, .int (z9_6 2), .ref m2, .ref m3, .int 0, .ref m4, .int e4, .ref m5, .ref m6, .ref m7, .int e5]), (m2, eI (ty 0) 1000 er9_2), (m3, eI (ty 0) 1000 lr9_3), (ho, eO 0 [.int 0, .int 1, .int 0, .int 0, .int 0, .int 0, .int 0, .int 0, .int 0, .int 0, .ref g1, .ref g2, .ref g3])] H := hP
  have hD : va_D A [(h0, eO 4 [.ref lw, .ref w1, .ref w2, .int (z9_6 0), .int (z9_6 1), .int e2, .ref ho, .ref m1, .int (z9_6 2), .ref m2, .ref m3, .int 0, .ref m4, .int e4, .ref m5, .ref m6, .ref m7, .int e5]), (m2, eI (ty 0) 1000 er9_2), (m3, eI (ty 0) 1000 lr9_3), (ho, eO 0 [.int 0, .int 1, .int 0, .int 0, .int 0, .int 0, .int 0, .int 0, .int 0, .int 0, .ref g1, .ref g2, .ref g3])] := hD
  refine lv_icmp_ge (tgt := 70) hx hb d_X4_longestWay_21 (by decide) (fun hc_25 => ?_) (fun hc_25 => ?_)
  · have hc_25 := un_le 10 i rfl rfl (by omega) (by omega) hc_25
    obtain rfl : i = 10 := by omega
    refine lv_iload_n hx hb d_X4_longestWay_70 rfl (lv_at hl 2 rfl) ?_
    exact ret_I (w := []) C hP hD hS [] rfl rfl ⟨rfl, rfl⟩ (by decide) (by decide) d_X4_longestWay_71
  · have hc_25 := un_nle 10 i rfl rfl (by omega) (by omega) hc_25
    refine lv_aload_n hx hb d_X4_longestWay_24 rfl (lv_at hl 3 rfl) ?_
    refine r_get (v := .ref m2) C hP 0 rfl rfl lay_X4 9 (by decide) k_419 rfl d_X4_longestWay_25 ?_
    refine lv_iload hx hb d_X4_longestWay_28 (lv_at hl 0 rfl) ?_
    refine r_iald (v := (nI (i * 100))) C hP 1 rfl i rfl (by omega) (by decide) (her9_10 i (by omega)) d_X4_longestWay_30 ?_
    refine lv_iconst (v := (-1)) hx hb d_X4_longestWay_31 (by decide) ?_
    refine b_icmp_eqF C 64 d_X4_longestWay_32 (by decide) (n_neneg (i * 100) rfl (by omega) (by decide)) ?_
    refine lv_aload_n hx hb d_X4_longestWay_35 rfl (lv_at hl 3 rfl) ?_
    refine r_get (v := .ref m3) C hP 0 rfl rfl lay_X4 10 (by decide) k_420 rfl d_X4_longestWay_36 ?_
    refine lv_iload hx hb d_X4_longestWay_39 (lv_at hl 0 rfl) ?_
    refine r_iald (v := 0) C hP 2 rfl i rfl (by omega) (by decide) (hlr9_11 i (by omega)) d_X4_longestWay_41 ?_
    refine lv_iload_n hx hb d_X4_longestWay_42 rfl (lv_at hl 1 rfl) ?_
    refine b_icmp_leT C 64 d_X4_longestWay_43 (by decide) (by decide) ?_
    refine lv_iinc (v := (nI (i + 1))) (lv' := [(4, .int (nI (i + 1))), (3, .int 0), (2, .int 0), (0, .ref h0), (1, .int 0)]) (k := 0) hx hb d_X4_longestWay_64 hl rfl (a_inc i 1 (i + 1) rfl rfl) (by decide) rfl (fun ls hl => ?_)
    refine lv_goto (tgt := 12) hx hb d_X4_longestWay_67 (by decide) ?_
    exact ih_20 (i + 1) _ _ _ (by omega) ⟨(by omega), (by omega), sub_P hP (is := [0, 1, 2, 3]) rfl, hD.sub [0, 1, 2, 3] (by decide) rfl, hS, lv_sub hl [0, 1, 2, 3, 4] rfl⟩
set_option maxHeartbeats 4000000 in
set_option maxRecDepth 100000 in
theorem c_endWith (l : Launch) (D : va_G) (ty : Nat → ClassId) (h0 : Nat) (ho : Nat) (lw : Nat) (l1 : Nat) (l2 : Nat) (l3 : Nat) (l4 : Nat) (w1 : Nat) (w2 : Nat) (m1 : Nat) (m2 : Nat) (m3 : Nat) (m4 : Nat) (m5 : Nat) (m6 : Nat) (m7 : Nat) (g1 : Nat) (g2 : Nat) (g3 : Nat) (e0 : Int32) (e1 : Int32) (e2 : Int32) (e3 : Int32) (e5 : Int32) (cm : Nat) (wb : Int32) (wk : Int32) (f : Nat → Int32) (v : Nat → Int32) (g : Nat → Int32) (eo : Nat → Int32) (b : Nat) (hf : B01 f) (hcm : cm < 100000) (hmk : MK g cm) (hbd : b < 1000) : CC l D ty ⟨"PinchedBill$Reckoner", "endWith", "(II)I"⟩ prog_6_method_9_code 3 (some .int) 5 115 0 0 [.ref h0, .int (nI b), .int 0] [(h0, eO 4 [.ref lw, .ref w1, .ref w2, .int e0, .int e1, .int e2, .ref ho, .ref m1, .int (nI cm), .ref m2, .ref m3, .int e3, .ref m4, .int (-1), .ref m5, .ref m6, .ref m7, .int e5]), (lw, eO 2 [.ref ho, .ref l1, .ref l2, .ref l3, .ref l4]), (ho, eO 0 [.int 0, .int 1, .int 0, .int 0, .int 0, .int 0, .int 0, .int 0, .int 0, .int 0, .ref g1, .ref g2, .ref g3]), (l1, eI (ty 0) 1000 f), (l3, eI (ty 0) 8 v), (w1, eO 7 [.int wb, .int wk]), (m1, eI (ty 0) 9000 g), (m4, eI (ty 0) 256 eo)] (QI D ty (fun (r : Int32) (w : va_W) => ∃ (z9 : Nat → Int32), (nI b) = r ∧ w = [(h0, eO 4 [.ref lw, .ref w1, .ref w2, .int (nI b), .int 0, .int e2, .ref ho, .ref m1, .int (z9 0), .ref m2, .ref m3, .int e3, .ref m4, .int (z9 1), .ref m5, .ref m6, .ref m7, .int e5]), (ho, eO 0 [.int 0, .int 1, .int 0, .int 0, .int 0, .int 0, .int 0, .int 0, .int 0, .int 0, .ref g1, .ref g2, .ref g3])])) := by
  refine CC_of (by decide) ?_
  intro p e s m below meth c A C hP hD hS
  obtain ⟨⟨hx, hb, hml, hown, hts⟩, hr, hlocks, hnm, hK, hE, hA, hZ⟩ := id C
  refine startW [.ref h0, .int (nI b), .int 0] 3 (nle rfl) (lv := [(0, .ref h0), (1, .int (nI b)), (2, .int 0)]) rfl (fun ls hl => ?_)
  refine lv_iload_n hx hb d_X4_endWith_0 rfl (lv_at hl 2 rfl) ?_
  refine b_if_ltF C 11 d_X4_endWith_1 (by decide) (by decide) ?_
  refine lv_iload_n hx hb d_X4_endWith_4 rfl (lv_at hl 2 rfl) ?_
  refine lv_sipush (v := 256) hx hb d_X4_endWith_5 (by decide) ?_
  refine b_icmp_ltT C 13 d_X4_endWith_8 (by decide) (by decide) ?_
  refine lv_aload_n hx hb d_X4_endWith_13 rfl (lv_at hl 0 rfl) ?_
  refine r_get (v := .int (-1)) C hP 0 rfl rfl lay_X4 13 (by decide) k_423 rfl d_X4_endWith_14 ?_
  refine lv_iload_n hx hb d_X4_endWith_17 rfl (lv_at hl 1 rfl) ?_
  refine b_icmp_eqF C 35 d_X4_endWith_18 (by decide) (n_negne b rfl (by omega) (by decide)) ?_
  refine lv_aload_n hx hb d_X4_endWith_21 rfl (lv_at hl 0 rfl) ?_
  refine r_get (v := .ref m4) C hP 0 rfl rfl lay_X4 12 (by decide) k_422 rfl d_X4_endWith_22 ?_
  refine lv_bipush (v := (-2)) hx hb d_X4_endWith_25 (by decide) ?_
  have ct_1 : Cut [(h0, eO 4 [.ref lw, .ref w1, .ref w2, .int e0, .int e1, .int e2, .ref ho, .ref m1, .int (nI cm), .ref m2, .ref m3, .int e3, .ref m4, .int (-1), .ref m5, .ref m6, .ref m7, .int e5]), (lw, eO 2 [.ref ho, .ref l1, .ref l2, .ref l3, .ref l4]), (ho, eO 0 [.int 0, .int 1, .int 0, .int 0, .int 0, .int 0, .int 0, .int 0, .int 0, .int 0, .ref g1, .ref g2, .ref g3]), (l1, eI (ty 0) 1000 f), (l3, eI (ty 0) 8 v), (w1, eO 7 [.int wb, .int wk]), (m1, eI (ty 0) 9000 g), (m4, eI (ty 0) 256 eo)] [(m4, eI (ty 0) 256 eo)] [(h0, eO 4 [.ref lw, .ref w1, .ref w2, .int e0, .int e1, .int e2, .ref ho, .ref m1, .int (nI cm), .ref m2, .ref m3, .int e3, .ref m4, .int (-1), .ref m5, .ref m6, .ref m7, .int e5]), (lw, eO 2 [.ref ho, .ref l1, .ref l2, .ref l3, .ref l4]), (ho, eO 0 [.int 0, .int 1, .int 0, .int 0, .int 0, .int 0, .int 0, .int 0, .int 0, .int 0, .ref g1, .ref g2, .ref g3]), (l1, eI (ty 0) 1000 f), (l3, eI (ty 0) 8 v), (w1, eO 7 [.int wb, .int wk]), (m1, eI (ty 0) 9000 g)] [7] [0, 1, 2, 3, 4, 5, 6] := ⟨rfl, rfl, rfl, rfl, by decide⟩
  refine cont_V C hP hD hS ct_1 (run_S (As := [.ref m4, .int (-2)]) (rest := []) C hP hD hS ct_1 (c_fillI l D ty m4 256 eo (-2) (by omega)) kS_PinchedBill_Reckoner_101 rfl hl.1 rfl (nle rfl) d_X4_endWith_27 ⟨by decide, by decide, by decide, by decide⟩) (fun w_5 H locs hw_3 hP hD hS => ?_)
  obtain ⟨g9_2, hg9_6, rfl⟩ := hw_3
  have hP : va_P D vwCl [(h0, eO 4 [.ref lw, .ref w1, .ref w2, .int e0, .int e1, .int e2, .ref ho, .ref m1, .int (nI cm), .ref m2, .ref m3, .int e3, .ref m4, .int (-1), .ref m5, .ref m6, .ref m7, .int e5]), (lw, eO 2 [.ref ho, .ref l1, .ref l2, .ref l3, .ref l4]), (ho, eO 0 [.int 0, .int 1, .int 0, .int 0, .int 0, .int 0, .int 0, .int 0, .int 0, .int 0, .ref g1, .ref g2, .ref g3]), (l1, eI (ty 0) 1000 f), (l3, eI (ty 0) 8 v), (w1, eO 7 [.int wb, .int wk]), (m1, eI (ty 0) 9000 g), (m4, eI (ty 0) 256 g9_2)] H := hP
  have hD : va_D A [(h0, eO 4 [.ref lw, .ref w1, .ref w2, .int e0, .int e1, .int e2, .ref ho, .ref m1, .int (nI cm), .ref m2, .ref m3, .int e3, .ref m4, .int (-1), .ref m5, .ref m6, .ref m7, .int e5]), (lw, eO 2 [.ref ho, .ref l1, .ref l2, .ref l3, .ref l4]), (ho, eO 0 [.int 0, .int 1, .int 0, .int 0, .int 0, .int 0, .int 0, .int 0, .int 0, .int 0, .ref g1, .ref g2, .ref g3]), (l1, eI (ty 0) 1000 f), (l3, eI (ty 0) 8 v), (w1, eO 7 [.int wb, .int wk]), (m1, eI (ty 0) 9000 g), (m4, eI (ty 0) 256 g9_2)] := hD
  refine lv_aload_n hx hb d_X4_endWith_30 rfl (lv_at hl 0 rfl) ?_
  refine lv_iload_n hx hb d_X4_endWith_31 rfl (lv_at hl 1 rfl) ?_
  refine r_put (w := [(h0, eO 4 [.ref lw, .ref w1, .ref w2, .int e0, .int e1, .int e2, .ref ho, .ref m1, .int (nI cm), .ref m2, .ref m3, .int e3, .ref m4, .int (nI b), .ref m5, .ref m6, .ref m7, .int e5]), (lw, eO 2 [.ref ho, .ref l1, .ref l2, .ref l3, .ref l4]), (ho, eO 0 [.int 0, .int 1, .int 0, .int 0, .int 0, .int 0, .int 0, .int 0, .int 0, .int 0, .ref g1, .ref g2, .ref g3]), (l1, eI (ty 0) 1000 f), (l3, eI (ty 0) 8 v), (w1, eO 7 [.int wb, .int wk]), (m1, eI (ty 0) 9000 g), (m4, eI (ty 0) 256 g9_2)]) C hP hD hS 0 rfl rfl lay_X4 tok_X4 nmo_X4 13 (by decide) k_423 rfl rfl rfl (nle rfl) rfl d_X4_endWith_32 (fun H locs hP hD hS => ?_)
  refine lv_aload_n hx hb d_X4_endWith_35 rfl (lv_at hl 0 rfl) ?_
  refine r_get (v := .ref m4) C hP 0 rfl rfl lay_X4 12 (by decide) k_422 rfl d_X4_endWith_36 ?_
  refine lv_iload_n hx hb d_X4_endWith_39 rfl (lv_at hl 2 rfl) ?_
  refine r_iald (v := (-2)) C hP 7 rfl 0 rfl (by decide) (by decide) (hg9_6 0 (by omega)) d_X4_endWith_40 ?_
  refine lv_bipush (v := (-2)) hx hb d_X4_endWith_41 (by decide) ?_
  refine b_icmp_neF C 62 d_X4_endWith_43 (by decide) (by decide) ?_
  refine lv_aload_n hx hb d_X4_endWith_46 rfl (lv_at hl 0 rfl) ?_
  refine lv_iload_n hx hb d_X4_endWith_47 rfl (lv_at hl 1 rfl) ?_
  refine lv_iload_n hx hb d_X4_endWith_48 rfl (lv_at hl 2 rfl) ?_
  have ct_7 : Cut [(h0, eO 4 [.ref lw, .ref w1, .ref w2, .int e0, .int e1, .int e2, .ref ho, .ref m1, .int (nI cm), .ref m2, .ref m3, .int e3, .ref m4, .int (nI b), .ref m5, .ref m6, .ref m7, .int e5]), (lw, eO 2 [.ref ho, .ref l1, .ref l2, .ref l3, .ref l4]), (ho, eO 0 [.int 0, .int 1, .int 0, .int 0, .int 0, .int 0, .int 0, .int 0, .int 0, .int 0, .ref g1, .ref g2, .ref g3]), (l1, eI (ty 0) 1000 f), (l3, eI (ty 0) 8 v), (w1, eO 7 [.int wb, .int wk]), (m1, eI (ty 0) 9000 g), (m4, eI (ty 0) 256 g9_2)] [(h0, eO 4 [.ref lw, .ref w1, .ref w2, .int e0, .int e1, .int e2, .ref ho, .ref m1, .int (nI cm), .ref m2, .ref m3, .int e3, .ref m4, .int (nI b), .ref m5, .ref m6, .ref m7, .int e5]), (lw, eO 2 [.ref ho, .ref l1, .ref l2, .ref l3, .ref l4]), (ho, eO 0 [.int 0, .int 1, .int 0, .int 0, .int 0, .int 0, .int 0, .int 0, .int 0, .int 0, .ref g1, .ref g2, .ref g3]), (l1, eI (ty 0) 1000 f), (l3, eI (ty 0) 8 v), (w1, eO 7 [.int wb, .int wk]), (m1, eI (ty 0) 9000 g)] [(m4, eI (ty 0) 256 g9_2)] [0, 1, 2, 3, 4, 5, 6] [7] := ⟨rfl, rfl, rfl, rfl, by decide⟩
  refine cont_V C hP hD hS ct_7 (run_V (As := [.int (nI b), .int 0]) (rest := []) C hP hD hS ct_7 (c_trace l D ty h0 ho lw l1 l2 l3 l4 w1 w2 m1 m2 m3 m4 m5 m6 m7 g1 g2 g3 e0 e1 e2 e3 (nI b) e5 cm wb wk f v g b hbd hf (by omega) hmk) kV_PinchedBill_Reckoner_116 0 rfl rfl rfl rfl hl.1 rfl (nle rfl) d_X4_endWith_49 ⟨by decide, by decide, by decide, by decide⟩) (fun w_13 H locs hw_11 hP hD hS => ?_)
  obtain ⟨f9_8, v9_9, g9_10, hf9_14, hmk9_15, rfl⟩ := hw_11
  have hP : va_P D vwCl [(m4, eI (ty 0) 256 g9_2), (h0, eO 4 [.ref lw, .ref w1, .ref w2, .int (nI b), .int 0, .int e2, .ref ho, .ref m1, .int (nI (cm + 9001)), .ref m2, .ref m3, .int e3, .ref m4, .int (nI b), .ref m5, .ref m6, .ref m7, .int e5]), (lw, eO 2 [.ref ho, .ref l1, .ref l2, .ref l3, .ref l4]), (ho, eO 0 [.int 0, .int 1, .int 0, .int 0, .int 0, .int 0, .int 0, .int 0, .int 0, .int 0, .ref g1, .ref g2, .ref g3]), (l1, eI (ty 0) 1000 f9_8), (l3, eI (ty 0) 8 v9_9), (w1, eO 7 [.int (nI b), .int (-1)]), (m1, eI (ty 0) 9000 g9_10)] H := hP
  have hD : va_D A [(m4, eI (ty 0) 256 g9_2), (h0, eO 4 [.ref lw, .ref w1, .ref w2, .int (nI b), .int 0, .int e2, .ref ho, .ref m1, .int (nI (cm + 9001)), .ref m2, .ref m3, .int e3, .ref m4, .int (nI b), .ref m5, .ref m6, .ref m7, .int e5]), (lw, eO 2 [.ref ho, .ref l1, .ref l2, .ref l3, .ref l4]), (ho, eO 0 [.int 0, .int 1, .int 0, .int 0, .int 0, .int 0, .int 0, .int 0, .int 0, .int 0, .ref g1, .ref g2, .ref g3]), (l1, eI (ty 0) 1000 f9_8), (l3, eI (ty 0) 8 v9_9), (w1, eO 7 [.int (nI b), .int (-1)]), (m1, eI (ty 0) 9000 g9_10)] := hD
  refine lv_aload_n hx hb d_X4_endWith_52 rfl (lv_at hl 0 rfl) ?_
  refine r_get (v := .ref m4) C hP 1 rfl rfl lay_X4 12 (by decide) k_422 rfl d_X4_endWith_53 ?_
  refine lv_iload_n hx hb d_X4_endWith_56 rfl (lv_at hl 2 rfl) ?_
  refine lv_aload_n hx hb d_X4_endWith_57 rfl (lv_at hl 0 rfl) ?_
  refine r_get (v := .int (nI b)) C hP 1 rfl rfl lay_X4 3 (by decide) k_410 rfl d_X4_endWith_58 ?_
  refine r_iast (w := [(m4, eI (ty 0) 256 (upd g9_2 0 (nI b))), (h0, eO 4 [.ref lw, .ref w1, .ref w2, .int (nI b), .int 0, .int e2, .ref ho, .ref m1, .int (nI (cm + 9001)), .ref m2, .ref m3, .int e3, .ref m4, .int (nI b), .ref m5, .ref m6, .ref m7, .int e5]), (lw, eO 2 [.ref ho, .ref l1, .ref l2, .ref l3, .ref l4]), (ho, eO 0 [.int 0, .int 1, .int 0, .int 0, .int 0, .int 0, .int 0, .int 0, .int 0, .int 0, .ref g1, .ref g2, .ref g3]), (l1, eI (ty 0) 1000 f9_8), (l3, eI (ty 0) 8 v9_9), (w1, eO 7 [.int (nI b), .int (-1)]), (m1, eI (ty 0) 9000 g9_10)]) C hP hD hS 0 rfl 0 rfl (by decide) (by decide) rfl d_X4_endWith_61 (fun H locs hP hD hS => ?_)
  refine lv_aload_n hx hb d_X4_endWith_62 rfl (lv_at hl 0 rfl) ?_
  refine r_get (v := .ref m4) C hP 1 rfl rfl lay_X4 12 (by decide) k_422 rfl d_X4_endWith_63 ?_
  refine lv_iload_n hx hb d_X4_endWith_66 rfl (lv_at hl 2 rfl) ?_
  refine r_iald (v := (nI b)) C hP 0 rfl 0 rfl (by decide) (by decide) rfl d_X4_endWith_67 ?_
  exact ret_I (w := [(h0, eO 4 [.ref lw, .ref w1, .ref w2, .int (nI b), .int 0, .int e2, .ref ho, .ref m1, .int (nI (cm + 9001)), .ref m2, .ref m3, .int e3, .ref m4, .int (nI b), .ref m5, .ref m6, .ref m7, .int e5]), (ho, eO 0 [.int 0, .int 1, .int 0, .int 0, .int 0, .int 0, .int 0, .int 0, .int 0, .int 0, .ref g1, .ref g2, .ref g3])]) C hP hD hS [1, 3] rfl rfl ⟨(fun j => match j with | 0 => (nI (cm + 9001)) | _ => (nI b)), rfl, rfl⟩ (by decide) (by decide) d_X4_endWith_68
set_option maxHeartbeats 4000000 in
set_option maxRecDepth 100000 in
theorem c_fewN (l : Launch) (D : va_G) (ty : Nat → ClassId) (h0 : Nat) (ho : Nat) (lw : Nat) (l1 : Nat) (l2 : Nat) (l3 : Nat) (l4 : Nat) (w1 : Nat) (w2 : Nat) (m1 : Nat) (m2 : Nat) (m3 : Nat) (m4 : Nat) (m5 : Nat) (m6 : Nat) (m7 : Nat) (g1 : Nat) (g2 : Nat) (g3 : Nat) (e0 : Int32) (e1 : Int32) (e2 : Int32) (e3 : Int32) (e5 : Int32) (cm : Nat) (wb : Int32) (wk : Int32) (f : Nat → Int32) (v : Nat → Int32) (g : Nat → Int32) (eo : Nat → Int32) (b : Nat) (hf : B01 f) (hcm : cm < 100000) (hmk : MK g cm) (hbd : b < 1000) : CC l D ty ⟨"PinchedBill$Reckoner", "fewestSeats", "(II)I"⟩ prog_6_method_10_code 7 (some .int) 6 137 0 0 [.ref h0, .int (nI b), .int (-1)] [(h0, eO 4 [.ref lw, .ref w1, .ref w2, .int e0, .int e1, .int e2, .ref ho, .ref m1, .int (nI cm), .ref m2, .ref m3, .int e3, .ref m4, .int (-1), .ref m5, .ref m6, .ref m7, .int e5]), (lw, eO 2 [.ref ho, .ref l1, .ref l2, .ref l3, .ref l4]), (ho, eO 0 [.int 0, .int 1, .int 0, .int 0, .int 0, .int 0, .int 0, .int 0, .int 0, .int 0, .ref g1, .ref g2, .ref g3]), (l1, eI (ty 0) 1000 f), (l3, eI (ty 0) 8 v), (w1, eO 7 [.int wb, .int wk]), (m1, eI (ty 0) 9000 g), (m4, eI (ty 0) 256 eo)] (QI D ty (fun (r : Int32) (w : va_W) => 0 = r ∧ w = [])) := by
  refine CC_of (by decide) ?_
  intro p e s m below meth c A C hP hD hS
  obtain ⟨⟨hx, hb, hml, hown, hts⟩, hr, hlocks, hnm, hK, hE, hA, hZ⟩ := id C
  refine startW [.ref h0, .int (nI b), .int (-1)] 7 (nle rfl) (lv := [(0, .ref h0), (1, .int (nI b)), (2, .int (-1))]) rfl (fun ls hl => ?_)
  refine lv_iconst (v := 1) hx hb d_X4_fewestSeats_0 (by decide) ?_
  refine lv_aload_n hx hb d_X4_fewestSeats_1 rfl (lv_at hl 0 rfl) ?_
  refine r_get (v := .ref ho) C hP 0 rfl rfl lay_X4 6 (by decide) k_416 rfl d_X4_fewestSeats_2 ?_
  refine r_get (v := .int 0) C hP 2 rfl rfl lay_X0 2 (by decide) k_173 rfl d_X4_fewestSeats_5 ?_
  refine r_ishl (z := 1) C d_X4_fewestSeats_8 (by decide) ?_
  refine lv_istore_n (lv' := [(3, .int 1), (0, .ref h0), (1, .int (nI b)), (2, .int (-1))]) hx hb d_X4_fewestSeats_9 rfl hl (by decide) rfl (fun ls hl => ?_)
  refine lv_iconst (v := 0) hx hb d_X4_fewestSeats_10 (by decide) ?_
  refine lv_istore (lv' := [(4, .int 0), (3, .int 1), (0, .ref h0), (1, .int (nI b)), (2, .int (-1))]) hx hb d_X4_fewestSeats_11 hl (by decide) rfl (fun ls hl => ?_)
  refine lv_iload hx hb d_X4_fewestSeats_13 (lv_at hl 0 rfl) ?_
  refine lv_aload_n hx hb d_X4_fewestSeats_15 rfl (lv_at hl 2 rfl) ?_
  refine r_get (v := .ref ho) C hP 0 rfl rfl lay_X4 6 (by decide) k_416 rfl d_X4_fewestSeats_16 ?_
  refine r_get (v := .int 0) C hP 2 rfl rfl lay_X0 2 (by decide) k_173 rfl d_X4_fewestSeats_19 ?_
  refine b_icmp_gtF C 89 d_X4_fewestSeats_22 (by decide) (by decide) ?_
  refine lv_iconst (v := 0) hx hb d_X4_fewestSeats_25 (by decide) ?_
  refine lv_istore (lv' := [(5, .int 0), (4, .int 0), (3, .int 1), (0, .ref h0), (1, .int (nI b)), (2, .int (-1))]) hx hb d_X4_fewestSeats_26 hl (by decide) rfl (fun ls hl => ?_)
  refine lv_iload hx hb d_X4_fewestSeats_28 (lv_at hl 0 rfl) ?_
  refine lv_iload_n hx hb d_X4_fewestSeats_30 rfl (lv_at hl 2 rfl) ?_
  refine b_icmp_geF C 83 d_X4_fewestSeats_31 (by decide) (by decide) ?_
  refine lv_iload hx hb d_X4_fewestSeats_34 (lv_at hl 0 rfl) ?_
  have ct_1 : Cut [(h0, eO 4 [.ref lw, .ref w1, .ref w2, .int e0, .int e1, .int e2, .ref ho, .ref m1, .int (nI cm), .ref m2, .ref m3, .int e3, .ref m4, .int (-1), .ref m5, .ref m6, .ref m7, .int e5]), (lw, eO 2 [.ref ho, .ref l1, .ref l2, .ref l3, .ref l4]), (ho, eO 0 [.int 0, .int 1, .int 0, .int 0, .int 0, .int 0, .int 0, .int 0, .int 0, .int 0, .ref g1, .ref g2, .ref g3]), (l1, eI (ty 0) 1000 f), (l3, eI (ty 0) 8 v), (w1, eO 7 [.int wb, .int wk]), (m1, eI (ty 0) 9000 g), (m4, eI (ty 0) 256 eo)] [] [(h0, eO 4 [.ref lw, .ref w1, .ref w2, .int e0, .int e1, .int e2, .ref ho, .ref m1, .int (nI cm), .ref m2, .ref m3, .int e3, .ref m4, .int (-1), .ref m5, .ref m6, .ref m7, .int e5]), (lw, eO 2 [.ref ho, .ref l1, .ref l2, .ref l3, .ref l4]), (ho, eO 0 [.int 0, .int 1, .int 0, .int 0, .int 0, .int 0, .int 0, .int 0, .int 0, .int 0, .ref g1, .ref g2, .ref g3]), (l1, eI (ty 0) 1000 f), (l3, eI (ty 0) 8 v), (w1, eO 7 [.int wb, .int wk]), (m1, eI (ty 0) 9000 g), (m4, eI (ty 0) 256 eo)] [] [0, 1, 2, 3, 4, 5, 6, 7] := ⟨rfl, rfl, rfl, rfl, by decide⟩
  refine cont_I C hP hD hS ct_1 (run_S (As := [.int 0]) (rest := []) C hP hD hS ct_1 (c_bit0 l D ty) kS_PinchedBill_Reckoner_126 rfl hl.1 rfl (nle rfl) d_X4_fewestSeats_36 ⟨by decide, by decide, by decide, by decide⟩) (fun r_3 w_4 H locs hw_2 hP hD hS => ?_)
  obtain ⟨rfl, rfl⟩ := hw_2
  have hP : va_P D vwCl [(h0, eO 4 [.ref lw, .ref w1, .ref w2, .int e0, .int e1, .int e2, .ref ho, .ref m1, .int (nI cm), .ref m2, .ref m3, .int e3, .ref m4, .int (-1), .ref m5, .ref m6, .ref m7, .int e5]), (lw, eO 2 [.ref ho, .ref l1, .ref l2, .ref l3, .ref l4]), (ho, eO 0 [.int 0, .int 1, .int 0, .int 0, .int 0, .int 0, .int 0, .int 0, .int 0, .int 0, .ref g1, .ref g2, .ref g3]), (l1, eI (ty 0) 1000 f), (l3, eI (ty 0) 8 v), (w1, eO 7 [.int wb, .int wk]), (m1, eI (ty 0) 9000 g), (m4, eI (ty 0) 256 eo)] H := hP
  have hD : va_D A [(h0, eO 4 [.ref lw, .ref w1, .ref w2, .int e0, .int e1, .int e2, .ref ho, .ref m1, .int (nI cm), .ref m2, .ref m3, .int e3, .ref m4, .int (-1), .ref m5, .ref m6, .ref m7, .int e5]), (lw, eO 2 [.ref ho, .ref l1, .ref l2, .ref l3, .ref l4]), (ho, eO 0 [.int 0, .int 1, .int 0, .int 0, .int 0, .int 0, .int 0, .int 0, .int 0, .int 0, .ref g1, .ref g2, .ref g3]), (l1, eI (ty 0) 1000 f), (l3, eI (ty 0) 8 v), (w1, eO 7 [.int wb, .int wk]), (m1, eI (ty 0) 9000 g), (m4, eI (ty 0) 256 eo)] := hD
  refine lv_iload hx hb d_X4_fewestSeats_39 (lv_at hl 1 rfl) ?_
  refine b_icmp_neF C 54 d_X4_fewestSeats_41 (by decide) (by decide) ?_
  refine lv_aload_n hx hb d_X4_fewestSeats_44 rfl (lv_at hl 3 rfl) ?_
  refine lv_iload_n hx hb d_X4_fewestSeats_45 rfl (lv_at hl 4 rfl) ?_
  refine lv_iload hx hb d_X4_fewestSeats_46 (lv_at hl 0 rfl) ?_
  have ct_5 : Cut [(h0, eO 4 [.ref lw, .ref w1, .ref w2, .int e0, .int e1, .int e2, .ref ho, .ref m1, .int (nI cm), .ref m2, .ref m3, .int e3, .ref m4, .int (-1), .ref m5, .ref m6, .ref m7, .int e5]), (lw, eO 2 [.ref ho, .ref l1, .ref l2, .ref l3, .ref l4]), (ho, eO 0 [.int 0, .int 1, .int 0, .int 0, .int 0, .int 0, .int 0, .int 0, .int 0, .int 0, .ref g1, .ref g2, .ref g3]), (l1, eI (ty 0) 1000 f), (l3, eI (ty 0) 8 v), (w1, eO 7 [.int wb, .int wk]), (m1, eI (ty 0) 9000 g), (m4, eI (ty 0) 256 eo)] [(h0, eO 4 [.ref lw, .ref w1, .ref w2, .int e0, .int e1, .int e2, .ref ho, .ref m1, .int (nI cm), .ref m2, .ref m3, .int e3, .ref m4, .int (-1), .ref m5, .ref m6, .ref m7, .int e5]), (lw, eO 2 [.ref ho, .ref l1, .ref l2, .ref l3, .ref l4]), (ho, eO 0 [.int 0, .int 1, .int 0, .int 0, .int 0, .int 0, .int 0, .int 0, .int 0, .int 0, .ref g1, .ref g2, .ref g3]), (l1, eI (ty 0) 1000 f), (l3, eI (ty 0) 8 v), (w1, eO 7 [.int wb, .int wk]), (m1, eI (ty 0) 9000 g), (m4, eI (ty 0) 256 eo)] [] [0, 1, 2, 3, 4, 5, 6, 7] [] := ⟨rfl, rfl, rfl, rfl, by decide⟩
  refine cont_I C hP hD hS ct_5 (run_V (As := [.int (nI b), .int 0]) (rest := []) C hP hD hS ct_5 (c_endWith l D ty h0 ho lw l1 l2 l3 l4 w1 w2 m1 m2 m3 m4 m5 m6 m7 g1 g2 g3 e0 e1 e2 e3 e5 cm wb wk f v g eo b hf hcm hmk hbd) kV_PinchedBill_Reckoner_131 0 rfl rfl rfl rfl hl.1 rfl (nle rfl) d_X4_fewestSeats_48 ⟨by decide, by decide, by decide, by decide⟩) (fun r_8 w_9 H locs hw_7 hP hD hS => ?_)
  obtain ⟨z9_6, rfl, rfl⟩ := hw_7
  have hP : va_P D vwCl [(h0, eO 4 [.ref lw, .ref w1, .ref w2, .int (nI b), .int 0, .int e2, .ref ho, .ref m1, .int (z9_6 0), .ref m2, .ref m3, .int e3, .ref m4, .int (z9_6 1), .ref m5, .ref m6, .ref m7, .int e5]), (ho, eO 0 [.int 0, .int 1, .int 0, .int 0, .int 0, .int 0, .int 0, .int 0, .int 0, .int 0, .ref g1, .ref g2, .ref g3])] H := hP
  have hD : va_D A [(h0, eO 4 [.ref lw, .ref w1, .ref w2, .int (nI b), .int 0, .int e2, .ref ho, .ref m1, .int (z9_6 0), .ref m2, .ref m3, .int e3, .ref m4, .int (z9_6 1), .ref m5, .ref m6, .ref m7, .int e5]), (ho, eO 0 [.int 0, .int 1, .int 0, .int 0, .int 0, .int 0, .int 0, .int 0, .int 0, .int 0, .ref g1, .ref g2, .ref g3])] := hD
  refine lv_goto (tgt := 55) hx hb d_X4_fewestSeats_51 (by decide) ?_
  refine lv_istore (lv' := [(6, .int (nI b)), (5, .int 0), (4, .int 0), (3, .int 1), (0, .ref h0), (1, .int (nI b)), (2, .int (-1))]) hx hb d_X4_fewestSeats_55 hl (by decide) rfl (fun ls hl => ?_)
  refine lv_iload hx hb d_X4_fewestSeats_57 (lv_at hl 0 rfl) ?_
  refine lv_iconst (v := (-1)) hx hb d_X4_fewestSeats_59 (by decide) ?_
  refine b_icmp_eqF C 77 d_X4_fewestSeats_60 (by decide) (n_neneg b rfl (by omega) (by decide)) ?_
  refine lv_iload_n hx hb d_X4_fewestSeats_63 rfl (lv_at hl 6 rfl) ?_
  refine lv_iconst (v := (-1)) hx hb d_X4_fewestSeats_64 (by decide) ?_
  refine b_icmp_eqT C 74 d_X4_fewestSeats_65 (by decide) (by decide) ?_
  refine lv_iload hx hb d_X4_fewestSeats_74 (lv_at hl 1 rfl) ?_
  exact ret_I (w := []) C hP hD hS [] rfl rfl ⟨rfl, rfl⟩ (by decide) (by decide) d_X4_fewestSeats_76
set_option maxHeartbeats 4000000 in
set_option maxRecDepth 100000 in
theorem c_fewG (l : Launch) (D : va_G) (ty : Nat → ClassId) (h0 : Nat) (ho : Nat) (lw : Nat) (l1 : Nat) (l2 : Nat) (l3 : Nat) (l4 : Nat) (w1 : Nat) (w2 : Nat) (m1 : Nat) (m2 : Nat) (m3 : Nat) (m4 : Nat) (m5 : Nat) (m6 : Nat) (m7 : Nat) (g1 : Nat) (g2 : Nat) (g3 : Nat) (e0 : Int32) (e1 : Int32) (e2 : Int32) (e3 : Int32) (e5 : Int32) (cm : Nat) (wb : Int32) (wk : Int32) (f : Nat → Int32) (v : Nat → Int32) (g : Nat → Int32) (eo : Nat → Int32) (jb : Nat) (q : Nat) (hf : B01 f) (hcm : cm < 100000) (hmk : MK g cm) (hbd : jb < 10) (hq : q < 10) : CC l D ty ⟨"PinchedBill$Reckoner", "fewestSeats", "(II)I"⟩ prog_6_method_10_code 7 (some .int) 6 137 0 0 [.ref h0, .int (nI (100 * jb)), .int (nI (100 * q))] [(h0, eO 4 [.ref lw, .ref w1, .ref w2, .int e0, .int e1, .int e2, .ref ho, .ref m1, .int (nI cm), .ref m2, .ref m3, .int e3, .ref m4, .int (-1), .ref m5, .ref m6, .ref m7, .int e5]), (lw, eO 2 [.ref ho, .ref l1, .ref l2, .ref l3, .ref l4]), (ho, eO 0 [.int 0, .int 1, .int 0, .int 0, .int 0, .int 0, .int 0, .int 0, .int 0, .int 0, .ref g1, .ref g2, .ref g3]), (l1, eI (ty 0) 1000 f), (l3, eI (ty 0) 8 v), (w1, eO 7 [.int wb, .int wk]), (m1, eI (ty 0) 9000 g), (m4, eI (ty 0) 256 eo)] (QI D ty (fun (r : Int32) (w : va_W) => (if jb = q then 0 else (-1)) = r ∧ w = [])) := by
  refine CC_of (by decide) ?_
  intro p e s m below meth c A C hP hD hS
  obtain ⟨⟨hx, hb, hml, hown, hts⟩, hr, hlocks, hnm, hK, hE, hA, hZ⟩ := id C
  refine startW [.ref h0, .int (nI (100 * jb)), .int (nI (100 * q))] 7 (nle rfl) (lv := [(0, .ref h0), (1, .int (nI (100 * jb))), (2, .int (nI (100 * q)))]) rfl (fun ls hl => ?_)
  refine lv_iconst (v := 1) hx hb d_X4_fewestSeats_0 (by decide) ?_
  refine lv_aload_n hx hb d_X4_fewestSeats_1 rfl (lv_at hl 0 rfl) ?_
  refine r_get (v := .ref ho) C hP 0 rfl rfl lay_X4 6 (by decide) k_416 rfl d_X4_fewestSeats_2 ?_
  refine r_get (v := .int 0) C hP 2 rfl rfl lay_X0 2 (by decide) k_173 rfl d_X4_fewestSeats_5 ?_
  refine r_ishl (z := 1) C d_X4_fewestSeats_8 (by decide) ?_
  refine lv_istore_n (lv' := [(3, .int 1), (0, .ref h0), (1, .int (nI (100 * jb))), (2, .int (nI (100 * q)))]) hx hb d_X4_fewestSeats_9 rfl hl (by decide) rfl (fun ls hl => ?_)
  refine lv_iconst (v := 0) hx hb d_X4_fewestSeats_10 (by decide) ?_
  refine lv_istore (lv' := [(4, .int 0), (3, .int 1), (0, .ref h0), (1, .int (nI (100 * jb))), (2, .int (nI (100 * q)))]) hx hb d_X4_fewestSeats_11 hl (by decide) rfl (fun ls hl => ?_)
  refine lv_iload hx hb d_X4_fewestSeats_13 (lv_at hl 0 rfl) ?_
  refine lv_aload_n hx hb d_X4_fewestSeats_15 rfl (lv_at hl 2 rfl) ?_
  refine r_get (v := .ref ho) C hP 0 rfl rfl lay_X4 6 (by decide) k_416 rfl d_X4_fewestSeats_16 ?_
  refine r_get (v := .int 0) C hP 2 rfl rfl lay_X0 2 (by decide) k_173 rfl d_X4_fewestSeats_19 ?_
  refine b_icmp_gtF C 89 d_X4_fewestSeats_22 (by decide) (by decide) ?_
  refine lv_iconst (v := 0) hx hb d_X4_fewestSeats_25 (by decide) ?_
  refine lv_istore (lv' := [(5, .int 0), (4, .int 0), (3, .int 1), (0, .ref h0), (1, .int (nI (100 * jb))), (2, .int (nI (100 * q)))]) hx hb d_X4_fewestSeats_26 hl (by decide) rfl (fun ls hl => ?_)
  refine lv_iload hx hb d_X4_fewestSeats_28 (lv_at hl 0 rfl) ?_
  refine lv_iload_n hx hb d_X4_fewestSeats_30 rfl (lv_at hl 2 rfl) ?_
  refine b_icmp_geF C 83 d_X4_fewestSeats_31 (by decide) (by decide) ?_
  refine lv_iload hx hb d_X4_fewestSeats_34 (lv_at hl 0 rfl) ?_
  have ct_1 : Cut [(h0, eO 4 [.ref lw, .ref w1, .ref w2, .int e0, .int e1, .int e2, .ref ho, .ref m1, .int (nI cm), .ref m2, .ref m3, .int e3, .ref m4, .int (-1), .ref m5, .ref m6, .ref m7, .int e5]), (lw, eO 2 [.ref ho, .ref l1, .ref l2, .ref l3, .ref l4]), (ho, eO 0 [.int 0, .int 1, .int 0, .int 0, .int 0, .int 0, .int 0, .int 0, .int 0, .int 0, .ref g1, .ref g2, .ref g3]), (l1, eI (ty 0) 1000 f), (l3, eI (ty 0) 8 v), (w1, eO 7 [.int wb, .int wk]), (m1, eI (ty 0) 9000 g), (m4, eI (ty 0) 256 eo)] [] [(h0, eO 4 [.ref lw, .ref w1, .ref w2, .int e0, .int e1, .int e2, .ref ho, .ref m1, .int (nI cm), .ref m2, .ref m3, .int e3, .ref m4, .int (-1), .ref m5, .ref m6, .ref m7, .int e5]), (lw, eO 2 [.ref ho, .ref l1, .ref l2, .ref l3, .ref l4]), (ho, eO 0 [.int 0, .int 1, .int 0, .int 0, .int 0, .int 0, .int 0, .int 0, .int 0, .int 0, .ref g1, .ref g2, .ref g3]), (l1, eI (ty 0) 1000 f), (l3, eI (ty 0) 8 v), (w1, eO 7 [.int wb, .int wk]), (m1, eI (ty 0) 9000 g), (m4, eI (ty 0) 256 eo)] [] [0, 1, 2, 3, 4, 5, 6, 7] := ⟨rfl, rfl, rfl, rfl, by decide⟩
  refine cont_I C hP hD hS ct_1 (run_S (As := [.int 0]) (rest := []) C hP hD hS ct_1 (c_bit0 l D ty) kS_PinchedBill_Reckoner_126 rfl hl.1 rfl (nle rfl) d_X4_fewestSeats_36 ⟨by decide, by decide, by decide, by decide⟩) (fun r_3 w_4 H locs hw_2 hP hD hS => ?_)
  obtain ⟨rfl, rfl⟩ := hw_2
  have hP : va_P D vwCl [(h0, eO 4 [.ref lw, .ref w1, .ref w2, .int e0, .int e1, .int e2, .ref ho, .ref m1, .int (nI cm), .ref m2, .ref m3, .int e3, .ref m4, .int (-1), .ref m5, .ref m6, .ref m7, .int e5]), (lw, eO 2 [.ref ho, .ref l1, .ref l2, .ref l3, .ref l4]), (ho, eO 0 [.int 0, .int 1, .int 0, .int 0, .int 0, .int 0, .int 0, .int 0, .int 0, .int 0, .ref g1, .ref g2, .ref g3]), (l1, eI (ty 0) 1000 f), (l3, eI (ty 0) 8 v), (w1, eO 7 [.int wb, .int wk]), (m1, eI (ty 0) 9000 g), (m4, eI (ty 0) 256 eo)] H := hP
  have hD : va_D A [(h0, eO 4 [.ref lw, .ref w1, .ref w2, .int e0, .int e1, .int e2, .ref ho, .ref m1, .int (nI cm), .ref m2, .ref m3, .int e3, .ref m4, .int (-1), .ref m5, .ref m6, .ref m7, .int e5]), (lw, eO 2 [.ref ho, .ref l1, .ref l2, .ref l3, .ref l4]), (ho, eO 0 [.int 0, .int 1, .int 0, .int 0, .int 0, .int 0, .int 0, .int 0, .int 0, .int 0, .ref g1, .ref g2, .ref g3]), (l1, eI (ty 0) 1000 f), (l3, eI (ty 0) 8 v), (w1, eO 7 [.int wb, .int wk]), (m1, eI (ty 0) 9000 g), (m4, eI (ty 0) 256 eo)] := hD
  refine lv_iload hx hb d_X4_fewestSeats_39 (lv_at hl 1 rfl) ?_
  refine b_icmp_neF C 54 d_X4_fewestSeats_41 (by decide) (by decide) ?_
  refine lv_aload_n hx hb d_X4_fewestSeats_44 rfl (lv_at hl 3 rfl) ?_
  refine lv_iload_n hx hb d_X4_fewestSeats_45 rfl (lv_at hl 4 rfl) ?_
  refine lv_iload hx hb d_X4_fewestSeats_46 (lv_at hl 0 rfl) ?_
  have ct_5 : Cut [(h0, eO 4 [.ref lw, .ref w1, .ref w2, .int e0, .int e1, .int e2, .ref ho, .ref m1, .int (nI cm), .ref m2, .ref m3, .int e3, .ref m4, .int (-1), .ref m5, .ref m6, .ref m7, .int e5]), (lw, eO 2 [.ref ho, .ref l1, .ref l2, .ref l3, .ref l4]), (ho, eO 0 [.int 0, .int 1, .int 0, .int 0, .int 0, .int 0, .int 0, .int 0, .int 0, .int 0, .ref g1, .ref g2, .ref g3]), (l1, eI (ty 0) 1000 f), (l3, eI (ty 0) 8 v), (w1, eO 7 [.int wb, .int wk]), (m1, eI (ty 0) 9000 g), (m4, eI (ty 0) 256 eo)] [(h0, eO 4 [.ref lw, .ref w1, .ref w2, .int e0, .int e1, .int e2, .ref ho, .ref m1, .int (nI cm), .ref m2, .ref m3, .int e3, .ref m4, .int (-1), .ref m5, .ref m6, .ref m7, .int e5]), (lw, eO 2 [.ref ho, .ref l1, .ref l2, .ref l3, .ref l4]), (ho, eO 0 [.int 0, .int 1, .int 0, .int 0, .int 0, .int 0, .int 0, .int 0, .int 0, .int 0, .ref g1, .ref g2, .ref g3]), (l1, eI (ty 0) 1000 f), (l3, eI (ty 0) 8 v), (w1, eO 7 [.int wb, .int wk]), (m1, eI (ty 0) 9000 g), (m4, eI (ty 0) 256 eo)] [] [0, 1, 2, 3, 4, 5, 6, 7] [] := ⟨rfl, rfl, rfl, rfl, by decide⟩
  refine cont_I C hP hD hS ct_5 (run_V (As := [.int (nI (100 * jb)), .int 0]) (rest := []) C hP hD hS ct_5 (c_endWith l D ty h0 ho lw l1 l2 l3 l4 w1 w2 m1 m2 m3 m4 m5 m6 m7 g1 g2 g3 e0 e1 e2 e3 e5 cm wb wk f v g eo (100 * jb) hf hcm hmk (by omega)) kV_PinchedBill_Reckoner_131 0 rfl rfl rfl rfl hl.1 rfl (nle rfl) d_X4_fewestSeats_48 ⟨by decide, by decide, by decide, by decide⟩) (fun r_8 w_9 H locs hw_7 hP hD hS => ?_)
  obtain ⟨z9_6, rfl, rfl⟩ := hw_7
  have hP : va_P D vwCl [(h0, eO 4 [.ref lw, .ref w1, .ref w2, .int (nI (100 * jb)), .int 0, .int e2, .ref ho, .ref m1, .int (z9_6 0), .ref m2, .ref m3, .int e3, .ref m4, .int (z9_6 1), .ref m5, .ref m6, .ref m7, .int e5]), (ho, eO 0 [.int 0, .int 1, .int 0, .int 0, .int 0, .int 0, .int 0, .int 0, .int 0, .int 0, .ref g1, .ref g2, .ref g3])] H := hP
  have hD : va_D A [(h0, eO 4 [.ref lw, .ref w1, .ref w2, .int (nI (100 * jb)), .int 0, .int e2, .ref ho, .ref m1, .int (z9_6 0), .ref m2, .ref m3, .int e3, .ref m4, .int (z9_6 1), .ref m5, .ref m6, .ref m7, .int e5]), (ho, eO 0 [.int 0, .int 1, .int 0, .int 0, .int 0, .int 0, .int 0, .int 0, .int 0, .int 0, .ref g1, .ref g2, .ref g3])] := hD
  refine lv_goto (tgt := 55) hx hb d_X4_fewestSeats_51 (by decide) ?_
  refine lv_istore (lv' := [(6, .int (nI (100 * jb))), (5, .int 0), (4, .int 0), (3, .int 1), (0, .ref h0), (1, .int (nI (100 * jb))), (2, .int (nI (100 * q)))]) hx hb d_X4_fewestSeats_55 hl (by decide) rfl (fun ls hl => ?_)
  refine lv_iload hx hb d_X4_fewestSeats_57 (lv_at hl 0 rfl) ?_
  refine lv_iconst (v := (-1)) hx hb d_X4_fewestSeats_59 (by decide) ?_
  refine b_icmp_eqF C 77 d_X4_fewestSeats_60 (by decide) (n_neneg (100 * jb) rfl (by omega) (by decide)) ?_
  refine lv_iload_n hx hb d_X4_fewestSeats_63 rfl (lv_at hl 6 rfl) ?_
  refine lv_iconst (v := (-1)) hx hb d_X4_fewestSeats_64 (by decide) ?_
  refine b_icmp_eqF C 74 d_X4_fewestSeats_65 (by decide) (n_neneg (100 * q) rfl (by omega) (by decide)) ?_
  refine lv_iload_n hx hb d_X4_fewestSeats_68 rfl (lv_at hl 6 rfl) ?_
  refine lv_iload hx hb d_X4_fewestSeats_69 (lv_at hl 0 rfl) ?_
  refine lv_icmp_ne (tgt := 77) hx hb d_X4_fewestSeats_71 (by decide) (fun hc_10 => ?_) (fun hc_10 => ?_)
  · have hc_10 := un_ne (100 * q) (100 * jb) rfl rfl (by omega) (by omega) hc_10
    refine lv_iinc (v := 1) (lv' := [(5, .int 1), (6, .int (nI (100 * jb))), (4, .int 0), (3, .int 1), (0, .ref h0), (1, .int (nI (100 * jb))), (2, .int (nI (100 * q)))]) (k := 1) hx hb d_X4_fewestSeats_77 hl rfl (by decide) (by decide) rfl (fun ls hl => ?_)
    refine lv_goto (tgt := 28) hx hb d_X4_fewestSeats_80 (by decide) ?_
    refine lv_iload hx hb d_X4_fewestSeats_28 (lv_at hl 0 rfl) ?_
    refine lv_iload_n hx hb d_X4_fewestSeats_30 rfl (lv_at hl 3 rfl) ?_
    refine b_icmp_geT C 83 d_X4_fewestSeats_31 (by decide) (by decide) ?_
    refine lv_iinc (v := 1) (lv' := [(4, .int 1), (5, .int 1), (6, .int (nI (100 * jb))), (3, .int 1), (0, .ref h0), (1, .int (nI (100 * jb))), (2, .int (nI (100 * q)))]) (k := 2) hx hb d_X4_fewestSeats_83 hl rfl (by decide) (by decide) rfl (fun ls hl => ?_)
    refine lv_goto (tgt := 13) hx hb d_X4_fewestSeats_86 (by decide) ?_
    refine lv_iload hx hb d_X4_fewestSeats_13 (lv_at hl 0 rfl) ?_
    refine lv_aload_n hx hb d_X4_fewestSeats_15 rfl (lv_at hl 4 rfl) ?_
    refine r_get (v := .ref ho) C hP 0 rfl rfl lay_X4 6 (by decide) k_416 rfl d_X4_fewestSeats_16 ?_
    refine r_get (v := .int 0) C hP 1 rfl rfl lay_X0 2 (by decide) k_173 rfl d_X4_fewestSeats_19 ?_
    refine b_icmp_gtT C 89 d_X4_fewestSeats_22 (by decide) (by decide) ?_
    refine lv_iconst (v := (-1)) hx hb d_X4_fewestSeats_89 (by decide) ?_
    exact ret_I (w := []) C hP hD hS [] rfl rfl ⟨(Eq.symm (by rw [if_neg (by omega)])), rfl⟩ (by decide) (by decide) d_X4_fewestSeats_90
  · have hc_10 := un_eq (100 * q) (100 * jb) rfl rfl (by omega) (by omega) hc_10
    refine lv_iload hx hb d_X4_fewestSeats_74 (lv_at hl 1 rfl) ?_
    exact ret_I (w := []) C hP hD hS [] rfl rfl ⟨(Eq.symm (by rw [if_pos (by omega)])), rfl⟩ (by decide) (by decide) d_X4_fewestSeats_76
set_option maxHeartbeats 4000000 in
set_option maxRecDepth 100000 in
theorem c_weight (l : Launch) (D : va_G) (ty : Nat → ClassId) (h0 : Nat) (ho : Nat) (lw : Nat) (w1 : Nat) (w2 : Nat) (m1 : Nat) (m2 : Nat) (m3 : Nat) (m4 : Nat) (m5 : Nat) (m6 : Nat) (m7 : Nat) (g1 : Nat) (g2 : Nat) (g3 : Nat) (e0 : Int32) (e1 : Int32) (e2 : Int32) (e3 : Int32) (e4 : Int32) (e5 : Int32) (cm : Nat) : CC l D ty ⟨"PinchedBill$Reckoner", "weightOf", "(II)J"⟩ prog_6_method_12_code 7 (some .long) 0 0 0 0 [.ref h0, .int 0, .int (-1)] [(h0, eO 4 [.ref lw, .ref w1, .ref w2, .int e0, .int e1, .int e2, .ref ho, .ref m1, .int (nI cm), .ref m2, .ref m3, .int e3, .ref m4, .int e4, .ref m5, .ref m6, .ref m7, .int e5]), (ho, eO 0 [.int 0, .int 1, .int 0, .int 0, .int 0, .int 0, .int 0, .int 0, .int 0, .int 0, .ref g1, .ref g2, .ref g3])] (QL D ty (fun (r : Int64) (w : va_W) => 1 = r ∧ w = [(h0, eO 4 [.ref lw, .ref w1, .ref w2, .int e0, .int e1, .int e2, .ref ho, .ref m1, .int (nI cm), .ref m2, .ref m3, .int e3, .ref m4, .int e4, .ref m5, .ref m6, .ref m7, .int e5]), (ho, eO 0 [.int 0, .int 1, .int 0, .int 0, .int 0, .int 0, .int 0, .int 0, .int 0, .int 0, .ref g1, .ref g2, .ref g3])])) := by
  refine CC_of (by decide) ?_
  intro p e s m below meth c A C hP hD hS
  obtain ⟨⟨hx, hb, hml, hown, hts⟩, hr, hlocks, hnm, hK, hE, hA, hZ⟩ := id C
  refine startW [.ref h0, .int 0, .int (-1)] 7 (nle rfl) (lv := [(0, .ref h0), (1, .int 0), (2, .int (-1))]) rfl (fun ls hl => ?_)
  refine lv_lconst (v := 1) hx hb d_X4_weightOf_0 (by decide) ?_
  refine lv_lstore_n (lv' := [(3, .long 1), (0, .ref h0), (1, .int 0), (2, .int (-1))]) hx hb d_X4_weightOf_1 rfl hl (by decide) rfl (fun ls hl => ?_)
  refine lv_iconst (v := 0) hx hb d_X4_weightOf_2 (by decide) ?_
  refine lv_istore (lv' := [(5, .int 0), (3, .long 1), (0, .ref h0), (1, .int 0), (2, .int (-1))]) hx hb d_X4_weightOf_3 hl (by decide) rfl (fun ls hl => ?_)
  refine lv_iload hx hb d_X4_weightOf_5 (lv_at hl 0 rfl) ?_
  refine lv_aload_n hx hb d_X4_weightOf_7 rfl (lv_at hl 2 rfl) ?_
  refine r_get (v := .ref ho) C hP 0 rfl rfl lay_X4 6 (by decide) k_416 rfl d_X4_weightOf_8 ?_
  refine r_get (v := .int 0) C hP 1 rfl rfl lay_X0 2 (by decide) k_173 rfl d_X4_weightOf_11 ?_
  refine b_icmp_geT C 75 d_X4_weightOf_14 (by decide) (by decide) ?_
  refine lv_lload_n hx hb d_X4_weightOf_75 rfl (lv_at hl 1 rfl) ?_
  exact ret_L (w := [(h0, eO 4 [.ref lw, .ref w1, .ref w2, .int e0, .int e1, .int e2, .ref ho, .ref m1, .int (nI cm), .ref m2, .ref m3, .int e3, .ref m4, .int e4, .ref m5, .ref m6, .ref m7, .int e5]), (ho, eO 0 [.int 0, .int 1, .int 0, .int 0, .int 0, .int 0, .int 0, .int 0, .int 0, .int 0, .ref g1, .ref g2, .ref g3])]) C hP hD hS [0, 1] rfl rfl ⟨rfl, rfl⟩ (by decide) (by decide) d_X4_weightOf_76
set_option maxHeartbeats 4000000 in
set_option maxRecDepth 100000 in
theorem c_chance (l : Launch) (D : va_G) (ty : Nat → ClassId) (h0 : Nat) (ho : Nat) (lw : Nat) (l1 : Nat) (l2 : Nat) (l3 : Nat) (l4 : Nat) (w1 : Nat) (w2 : Nat) (m1 : Nat) (m2 : Nat) (m3 : Nat) (m4 : Nat) (m5 : Nat) (m6 : Nat) (m7 : Nat) (g1 : Nat) (g2 : Nat) (g3 : Nat) (e0 : Int32) (e1 : Int32) (e2 : Int32) (e3 : Int32) (e5 : Int32) (cm : Nat) (wb : Int32) (wk : Int32) (f : Nat → Int32) (v : Nat → Int32) (g : Nat → Int32) (eo : Nat → Int32) (b : Nat) (hf : B01 f) (hcm : cm < 100000) (hmk : MK g cm) (hbd : b < 1000) : CC l D ty ⟨"PinchedBill$Reckoner", "chanceWithout", "(II)J"⟩ prog_6_method_11_code 9 (some .long) 6 137 0 0 [.ref h0, .int (nI b), .int (-1)] [(h0, eO 4 [.ref lw, .ref w1, .ref w2, .int e0, .int e1, .int e2, .ref ho, .ref m1, .int (nI cm), .ref m2, .ref m3, .int e3, .ref m4, .int (-1), .ref m5, .ref m6, .ref m7, .int e5]), (lw, eO 2 [.ref ho, .ref l1, .ref l2, .ref l3, .ref l4]), (ho, eO 0 [.int 0, .int 1, .int 0, .int 0, .int 0, .int 0, .int 0, .int 0, .int 0, .int 0, .ref g1, .ref g2, .ref g3]), (l1, eI (ty 0) 1000 f), (l3, eI (ty 0) 8 v), (w1, eO 7 [.int wb, .int wk]), (m1, eI (ty 0) 9000 g), (m4, eI (ty 0) 256 eo)] (QL D ty (fun (r : Int64) (w : va_W) => ∃ (z9 : Nat → Int32), 1 = r ∧ w = [(h0, eO 4 [.ref lw, .ref w1, .ref w2, .int (nI b), .int 0, .int e2, .ref ho, .ref m1, .int (z9 0), .ref m2, .ref m3, .int e3, .ref m4, .int (z9 1), .ref m5, .ref m6, .ref m7, .int e5]), (ho, eO 0 [.int 0, .int 1, .int 0, .int 0, .int 0, .int 0, .int 0, .int 0, .int 0, .int 0, .ref g1, .ref g2, .ref g3])])) := by
  refine CC_of (by decide) ?_
  intro p e s m below meth c A C hP hD hS
  obtain ⟨⟨hx, hb, hml, hown, hts⟩, hr, hlocks, hnm, hK, hE, hA, hZ⟩ := id C
  refine startW [.ref h0, .int (nI b), .int (-1)] 9 (nle rfl) (lv := [(0, .ref h0), (1, .int (nI b)), (2, .int (-1))]) rfl (fun ls hl => ?_)
  refine lv_lconst (v := 0) hx hb d_X4_chanceWithout_0 (by decide) ?_
  refine lv_lstore_n (lv' := [(3, .long 0), (0, .ref h0), (1, .int (nI b)), (2, .int (-1))]) hx hb d_X4_chanceWithout_1 rfl hl (by decide) rfl (fun ls hl => ?_)
  refine lv_iconst (v := 1) hx hb d_X4_chanceWithout_2 (by decide) ?_
  refine lv_aload_n hx hb d_X4_chanceWithout_3 rfl (lv_at hl 1 rfl) ?_
  refine r_get (v := .ref ho) C hP 0 rfl rfl lay_X4 6 (by decide) k_416 rfl d_X4_chanceWithout_4 ?_
  refine r_get (v := .int 0) C hP 2 rfl rfl lay_X0 2 (by decide) k_173 rfl d_X4_chanceWithout_7 ?_
  refine r_ishl (z := 1) C d_X4_chanceWithout_10 (by decide) ?_
  refine lv_istore (lv' := [(5, .int 1), (3, .long 0), (0, .ref h0), (1, .int (nI b)), (2, .int (-1))]) hx hb d_X4_chanceWithout_11 hl (by decide) rfl (fun ls hl => ?_)
  refine lv_iconst (v := 0) hx hb d_X4_chanceWithout_13 (by decide) ?_
  refine lv_istore (lv' := [(6, .int 0), (5, .int 1), (3, .long 0), (0, .ref h0), (1, .int (nI b)), (2, .int (-1))]) hx hb d_X4_chanceWithout_14 hl (by decide) rfl (fun ls hl => ?_)
  refine lv_iload hx hb d_X4_chanceWithout_16 (lv_at hl 0 rfl) ?_
  refine lv_iload hx hb d_X4_chanceWithout_18 (lv_at hl 1 rfl) ?_
  refine b_icmp_geF C 61 d_X4_chanceWithout_20 (by decide) (by decide) ?_
  refine lv_aload_n hx hb d_X4_chanceWithout_23 rfl (lv_at hl 3 rfl) ?_
  refine lv_iload hx hb d_X4_chanceWithout_24 (lv_at hl 0 rfl) ?_
  refine lv_iload_n hx hb d_X4_chanceWithout_26 rfl (lv_at hl 5 rfl) ?_
  have ct_1 : Cut [(h0, eO 4 [.ref lw, .ref w1, .ref w2, .int e0, .int e1, .int e2, .ref ho, .ref m1, .int (nI cm), .ref m2, .ref m3, .int e3, .ref m4, .int (-1), .ref m5, .ref m6, .ref m7, .int e5]), (lw, eO 2 [.ref ho, .ref l1, .ref l2, .ref l3, .ref l4]), (ho, eO 0 [.int 0, .int 1, .int 0, .int 0, .int 0, .int 0, .int 0, .int 0, .int 0, .int 0, .ref g1, .ref g2, .ref g3]), (l1, eI (ty 0) 1000 f), (l3, eI (ty 0) 8 v), (w1, eO 7 [.int wb, .int wk]), (m1, eI (ty 0) 9000 g), (m4, eI (ty 0) 256 eo)] [(h0, eO 4 [.ref lw, .ref w1, .ref w2, .int e0, .int e1, .int e2, .ref ho, .ref m1, .int (nI cm), .ref m2, .ref m3, .int e3, .ref m4, .int (-1), .ref m5, .ref m6, .ref m7, .int e5]), (ho, eO 0 [.int 0, .int 1, .int 0, .int 0, .int 0, .int 0, .int 0, .int 0, .int 0, .int 0, .ref g1, .ref g2, .ref g3])] [(lw, eO 2 [.ref ho, .ref l1, .ref l2, .ref l3, .ref l4]), (l1, eI (ty 0) 1000 f), (l3, eI (ty 0) 8 v), (w1, eO 7 [.int wb, .int wk]), (m1, eI (ty 0) 9000 g), (m4, eI (ty 0) 256 eo)] [0, 2] [1, 3, 4, 5, 6, 7] := ⟨rfl, rfl, rfl, rfl, by decide⟩
  refine cont_L C hP hD hS ct_1 (run_V (As := [.int 0, .int (-1)]) (rest := []) C hP hD hS ct_1 (c_weight l D ty h0 ho lw w1 w2 m1 m2 m3 m4 m5 m6 m7 g1 g2 g3 e0 e1 e2 e3 (-1) e5 cm) kV_PinchedBill_Reckoner_135 0 rfl rfl rfl rfl hl.1 rfl (nle rfl) d_X4_chanceWithout_27 ⟨by decide, by decide, by decide, by decide⟩) (fun r_3 w_4 H locs hw_2 hP hD hS => ?_)
  obtain ⟨rfl, rfl⟩ := hw_2
  have hP : va_P D vwCl [(lw, eO 2 [.ref ho, .ref l1, .ref l2, .ref l3, .ref l4]), (l1, eI (ty 0) 1000 f), (l3, eI (ty 0) 8 v), (w1, eO 7 [.int wb, .int wk]), (m1, eI (ty 0) 9000 g), (m4, eI (ty 0) 256 eo), (h0, eO 4 [.ref lw, .ref w1, .ref w2, .int e0, .int e1, .int e2, .ref ho, .ref m1, .int (nI cm), .ref m2, .ref m3, .int e3, .ref m4, .int (-1), .ref m5, .ref m6, .ref m7, .int e5]), (ho, eO 0 [.int 0, .int 1, .int 0, .int 0, .int 0, .int 0, .int 0, .int 0, .int 0, .int 0, .ref g1, .ref g2, .ref g3])] H := hP
  have hD : va_D A [(lw, eO 2 [.ref ho, .ref l1, .ref l2, .ref l3, .ref l4]), (l1, eI (ty 0) 1000 f), (l3, eI (ty 0) 8 v), (w1, eO 7 [.int wb, .int wk]), (m1, eI (ty 0) 9000 g), (m4, eI (ty 0) 256 eo), (h0, eO 4 [.ref lw, .ref w1, .ref w2, .int e0, .int e1, .int e2, .ref ho, .ref m1, .int (nI cm), .ref m2, .ref m3, .int e3, .ref m4, .int (-1), .ref m5, .ref m6, .ref m7, .int e5]), (ho, eO 0 [.int 0, .int 1, .int 0, .int 0, .int 0, .int 0, .int 0, .int 0, .int 0, .int 0, .ref g1, .ref g2, .ref g3])] := hD
  refine lv_lstore (lv' := [(7, .long 1), (6, .int 0), (5, .int 1), (3, .long 0), (0, .ref h0), (1, .int (nI b)), (2, .int (-1))]) hx hb d_X4_chanceWithout_30 hl (by decide) rfl (fun ls hl => ?_)
  refine lv_lload hx hb d_X4_chanceWithout_32 (lv_at hl 0 rfl) ?_
  refine lv_lconst (v := 0) hx hb d_X4_chanceWithout_34 (by decide) ?_
  refine W.lcmp hx hb d_X4_chanceWithout_35 (W.eq (g2 := F0 m 36 ls [.int 1]) (by rfl) ?_)
  refine b_if_eqF C 55 d_X4_chanceWithout_36 (by decide) (by decide) ?_
  refine lv_aload_n hx hb d_X4_chanceWithout_39 rfl (lv_at hl 4 rfl) ?_
  refine lv_iload_n hx hb d_X4_chanceWithout_40 rfl (lv_at hl 5 rfl) ?_
  refine lv_iload hx hb d_X4_chanceWithout_41 (lv_at hl 1 rfl) ?_
  have ct_5 : Cut [(lw, eO 2 [.ref ho, .ref l1, .ref l2, .ref l3, .ref l4]), (l1, eI (ty 0) 1000 f), (l3, eI (ty 0) 8 v), (w1, eO 7 [.int wb, .int wk]), (m1, eI (ty 0) 9000 g), (m4, eI (ty 0) 256 eo), (h0, eO 4 [.ref lw, .ref w1, .ref w2, .int e0, .int e1, .int e2, .ref ho, .ref m1, .int (nI cm), .ref m2, .ref m3, .int e3, .ref m4, .int (-1), .ref m5, .ref m6, .ref m7, .int e5]), (ho, eO 0 [.int 0, .int 1, .int 0, .int 0, .int 0, .int 0, .int 0, .int 0, .int 0, .int 0, .ref g1, .ref g2, .ref g3])] [(h0, eO 4 [.ref lw, .ref w1, .ref w2, .int e0, .int e1, .int e2, .ref ho, .ref m1, .int (nI cm), .ref m2, .ref m3, .int e3, .ref m4, .int (-1), .ref m5, .ref m6, .ref m7, .int e5]), (lw, eO 2 [.ref ho, .ref l1, .ref l2, .ref l3, .ref l4]), (ho, eO 0 [.int 0, .int 1, .int 0, .int 0, .int 0, .int 0, .int 0, .int 0, .int 0, .int 0, .ref g1, .ref g2, .ref g3]), (l1, eI (ty 0) 1000 f), (l3, eI (ty 0) 8 v), (w1, eO 7 [.int wb, .int wk]), (m1, eI (ty 0) 9000 g), (m4, eI (ty 0) 256 eo)] [] [6, 0, 7, 1, 2, 3, 4, 5] [] := ⟨rfl, rfl, rfl, rfl, by decide⟩
  refine cont_I C hP hD hS ct_5 (run_V (As := [.int (nI b), .int 0]) (rest := []) C hP hD hS ct_5 (c_endWith l D ty h0 ho lw l1 l2 l3 l4 w1 w2 m1 m2 m3 m4 m5 m6 m7 g1 g2 g3 e0 e1 e2 e3 e5 cm wb wk f v g eo b hf hcm hmk hbd) kV_PinchedBill_Reckoner_131 6 rfl rfl rfl rfl hl.1 rfl (nle rfl) d_X4_chanceWithout_43 ⟨by decide, by decide, by decide, by decide⟩) (fun r_8 w_9 H locs hw_7 hP hD hS => ?_)
  obtain ⟨z9_6, rfl, rfl⟩ := hw_7
  have hP : va_P D vwCl [(h0, eO 4 [.ref lw, .ref w1, .ref w2, .int (nI b), .int 0, .int e2, .ref ho, .ref m1, .int (z9_6 0), .ref m2, .ref m3, .int e3, .ref m4, .int (z9_6 1), .ref m5, .ref m6, .ref m7, .int e5]), (ho, eO 0 [.int 0, .int 1, .int 0, .int 0, .int 0, .int 0, .int 0, .int 0, .int 0, .int 0, .ref g1, .ref g2, .ref g3])] H := hP
  have hD : va_D A [(h0, eO 4 [.ref lw, .ref w1, .ref w2, .int (nI b), .int 0, .int e2, .ref ho, .ref m1, .int (z9_6 0), .ref m2, .ref m3, .int e3, .ref m4, .int (z9_6 1), .ref m5, .ref m6, .ref m7, .int e5]), (ho, eO 0 [.int 0, .int 1, .int 0, .int 0, .int 0, .int 0, .int 0, .int 0, .int 0, .int 0, .ref g1, .ref g2, .ref g3])] := hD
  refine lv_iconst (v := (-1)) hx hb d_X4_chanceWithout_46 (by decide) ?_
  refine b_icmp_eqF C 55 d_X4_chanceWithout_47 (by decide) (n_neneg b rfl (by omega) (by decide)) ?_
  refine lv_lload_n hx hb d_X4_chanceWithout_50 rfl (lv_at hl 3 rfl) ?_
  refine lv_lload hx hb d_X4_chanceWithout_51 (lv_at hl 0 rfl) ?_
  refine r_ladd (z := 1) C d_X4_chanceWithout_53 (by decide) ?_
  refine lv_lstore_n (lv' := [(3, .long 1), (7, .long 1), (6, .int 0), (5, .int 1), (0, .ref h0), (1, .int (nI b)), (2, .int (-1))]) hx hb d_X4_chanceWithout_54 rfl hl (by decide) rfl (fun ls hl => ?_)
  refine lv_iinc (v := 1) (lv' := [(6, .int 1), (3, .long 1), (7, .long 1), (5, .int 1), (0, .ref h0), (1, .int (nI b)), (2, .int (-1))]) (k := 2) hx hb d_X4_chanceWithout_55 hl rfl (by decide) (by decide) rfl (fun ls hl => ?_)
  refine lv_goto (tgt := 16) hx hb d_X4_chanceWithout_58 (by decide) ?_
  refine lv_iload hx hb d_X4_chanceWithout_16 (lv_at hl 0 rfl) ?_
  refine lv_iload hx hb d_X4_chanceWithout_18 (lv_at hl 3 rfl) ?_
  refine b_icmp_geT C 61 d_X4_chanceWithout_20 (by decide) (by decide) ?_
  refine lv_lload_n hx hb d_X4_chanceWithout_61 rfl (lv_at hl 1 rfl) ?_
  exact ret_L (w := [(h0, eO 4 [.ref lw, .ref w1, .ref w2, .int (nI b), .int 0, .int e2, .ref ho, .ref m1, .int (z9_6 0), .ref m2, .ref m3, .int e3, .ref m4, .int (z9_6 1), .ref m5, .ref m6, .ref m7, .int e5]), (ho, eO 0 [.int 0, .int 1, .int 0, .int 0, .int 0, .int 0, .int 0, .int 0, .int 0, .int 0, .ref g1, .ref g2, .ref g3])]) C hP hD hS [0, 1] rfl rfl ⟨(fun j => match j with | 0 => (z9_6 0) | _ => (z9_6 1)), rfl, rfl⟩ (by decide) (by decide) d_X4_chanceWithout_62
set_option maxHeartbeats 4000000 in
set_option maxRecDepth 100000 in
theorem c_speeches (l : Launch) (D : va_G) (ty : Nat → ClassId) (h0 : Nat) (ho : Nat) (lw : Nat) (w1 : Nat) (w2 : Nat) (m1 : Nat) (m2 : Nat) (m3 : Nat) (m4 : Nat) (m5 : Nat) (m6 : Nat) (m7 : Nat) (e0 : Int32) (e1 : Int32) (e2 : Int32) (e3 : Int32) (e4 : Int32) (e5 : Int32) (cm : Nat) (wb : Int32) (wk : Int32) (sp : Nat → Int32) (b : Nat) : CC l D ty ⟨"PinchedBill$Reckoner", "countSpeeches", "(III)V"⟩ prog_6_method_13_code 6 none 1 23 0 0 [.ref h0, .int (nI b), .int 0, .int 0] [(h0, eO 4 [.ref lw, .ref w1, .ref w2, .int e0, .int e1, .int e2, .ref ho, .ref m1, .int (nI cm), .ref m2, .ref m3, .int e3, .ref m4, .int e4, .ref m5, .ref m6, .ref m7, .int e5]), (w1, eO 7 [.int wb, .int wk]), (m5, eI (ty 0) 8 sp)] (QV D ty (fun (w : va_W) => w = [(h0, eO 4 [.ref lw, .ref w1, .ref w2, .int e0, .int e1, .int e2, .ref ho, .ref m1, .int (nI cm), .ref m2, .ref m3, .int e3, .ref m4, .int e4, .ref m5, .ref m6, .ref m7, .int e5])])) := by
  refine CC_of (by decide) ?_
  intro p e s m below meth c A C hP hD hS
  obtain ⟨⟨hx, hb, hml, hown, hts⟩, hr, hlocks, hnm, hK, hE, hA, hZ⟩ := id C
  refine startW [.ref h0, .int (nI b), .int 0, .int 0] 6 (nle rfl) (lv := [(0, .ref h0), (1, .int (nI b)), (2, .int 0), (3, .int 0)]) rfl (fun ls hl => ?_)
  refine lv_aload_n hx hb d_X4_countSpeeches_0 rfl (lv_at hl 0 rfl) ?_
  refine r_get (v := .ref m5) C hP 0 rfl rfl lay_X4 14 (by decide) k_424 rfl d_X4_countSpeeches_1 ?_
  refine lv_iconst (v := 0) hx hb d_X4_countSpeeches_4 (by decide) ?_
  have ct_1 : Cut [(h0, eO 4 [.ref lw, .ref w1, .ref w2, .int e0, .int e1, .int e2, .ref ho, .ref m1, .int (nI cm), .ref m2, .ref m3, .int e3, .ref m4, .int e4, .ref m5, .ref m6, .ref m7, .int e5]), (w1, eO 7 [.int wb, .int wk]), (m5, eI (ty 0) 8 sp)] [(m5, eI (ty 0) 8 sp)] [(h0, eO 4 [.ref lw, .ref w1, .ref w2, .int e0, .int e1, .int e2, .ref ho, .ref m1, .int (nI cm), .ref m2, .ref m3, .int e3, .ref m4, .int e4, .ref m5, .ref m6, .ref m7, .int e5]), (w1, eO 7 [.int wb, .int wk])] [2] [0, 1] := ⟨rfl, rfl, rfl, rfl, by decide⟩
  refine cont_V C hP hD hS ct_1 (run_S (As := [.ref m5, .int 0]) (rest := []) C hP hD hS ct_1 (c_fillI l D ty m5 8 sp 0 (by omega)) kS_PinchedBill_Reckoner_101 rfl hl.1 rfl (nle rfl) d_X4_countSpeeches_5 ⟨by decide, by decide, by decide, by decide⟩) (fun w_5 H locs hw_3 hP hD hS => ?_)
  obtain ⟨g9_2, hg9_6, rfl⟩ := hw_3
  have hP : va_P D vwCl [(h0, eO 4 [.ref lw, .ref w1, .ref w2, .int e0, .int e1, .int e2, .ref ho, .ref m1, .int (nI cm), .ref m2, .ref m3, .int e3, .ref m4, .int e4, .ref m5, .ref m6, .ref m7, .int e5]), (w1, eO 7 [.int wb, .int wk]), (m5, eI (ty 0) 8 g9_2)] H := hP
  have hD : va_D A [(h0, eO 4 [.ref lw, .ref w1, .ref w2, .int e0, .int e1, .int e2, .ref ho, .ref m1, .int (nI cm), .ref m2, .ref m3, .int e3, .ref m4, .int e4, .ref m5, .ref m6, .ref m7, .int e5]), (w1, eO 7 [.int wb, .int wk]), (m5, eI (ty 0) 8 g9_2)] := hD
  refine lv_aload_n hx hb d_X4_countSpeeches_8 rfl (lv_at hl 0 rfl) ?_
  refine r_get (v := .ref w1) C hP 0 rfl rfl lay_X4 1 (by decide) k_406 rfl d_X4_countSpeeches_9 ?_
  refine lv_iload_n hx hb d_X4_countSpeeches_12 rfl (lv_at hl 1 rfl) ?_
  have ct_7 : Cut [(h0, eO 4 [.ref lw, .ref w1, .ref w2, .int e0, .int e1, .int e2, .ref ho, .ref m1, .int (nI cm), .ref m2, .ref m3, .int e3, .ref m4, .int e4, .ref m5, .ref m6, .ref m7, .int e5]), (w1, eO 7 [.int wb, .int wk]), (m5, eI (ty 0) 8 g9_2)] [(w1, eO 7 [.int wb, .int wk])] [(h0, eO 4 [.ref lw, .ref w1, .ref w2, .int e0, .int e1, .int e2, .ref ho, .ref m1, .int (nI cm), .ref m2, .ref m3, .int e3, .ref m4, .int e4, .ref m5, .ref m6, .ref m7, .int e5]), (m5, eI (ty 0) 8 g9_2)] [1] [0, 2] := ⟨rfl, rfl, rfl, rfl, by decide⟩
  refine cont_V C hP hD hS ct_7 (run_V (As := [.int (nI b)]) (rest := []) C hP hD hS ct_7 (c_start l D ty w1 wb wk (nI b)) kV_PinchedBill_Reckoner_69 1 rfl rfl rfl rfl hl.1 rfl (nle rfl) d_X4_countSpeeches_13 ⟨by decide, by decide, by decide, by decide⟩) (fun w_10 H locs hw_8 hP hD hS => ?_)
  subst hw_8
  have hP : va_P D vwCl [(h0, eO 4 [.ref lw, .ref w1, .ref w2, .int e0, .int e1, .int e2, .ref ho, .ref m1, .int (nI cm), .ref m2, .ref m3, .int e3, .ref m4, .int e4, .ref m5, .ref m6, .ref m7, .int e5]), (m5, eI (ty 0) 8 g9_2), (w1, eO 7 [.int (nI b), .int (-1)])] H := hP
  have hD : va_D A [(h0, eO 4 [.ref lw, .ref w1, .ref w2, .int e0, .int e1, .int e2, .ref ho, .ref m1, .int (nI cm), .ref m2, .ref m3, .int e3, .ref m4, .int e4, .ref m5, .ref m6, .ref m7, .int e5]), (m5, eI (ty 0) 8 g9_2), (w1, eO 7 [.int (nI b), .int (-1)])] := hD
  refine lv_iconst (v := 0) hx hb d_X4_countSpeeches_16 (by decide) ?_
  refine lv_istore (lv' := [(4, .int 0), (0, .ref h0), (1, .int (nI b)), (2, .int 0), (3, .int 0)]) hx hb d_X4_countSpeeches_17 hl (by decide) rfl (fun ls hl => ?_)
  refine lv_iload hx hb d_X4_countSpeeches_19 (lv_at hl 0 rfl) ?_
  refine lv_iload_n hx hb d_X4_countSpeeches_21 rfl (lv_at hl 3 rfl) ?_
  refine b_icmp_geT C 69 d_X4_countSpeeches_22 (by decide) (by decide) ?_
  exact ret_V (w := [(h0, eO 4 [.ref lw, .ref w1, .ref w2, .int e0, .int e1, .int e2, .ref ho, .ref m1, .int (nI cm), .ref m2, .ref m3, .int e3, .ref m4, .int e4, .ref m5, .ref m6, .ref m7, .int e5])]) C hP hD hS [0] rfl rfl rfl (by decide) (by decide) d_X4_countSpeeches_69
set_option maxHeartbeats 4000000 in
set_option maxRecDepth 100000 in
theorem c_addFound (l : Launch) (D : va_G) (ty : Nat → ClassId) (h0 : Nat) (ho : Nat) (lw : Nat) (w1 : Nat) (w2 : Nat) (m1 : Nat) (m2 : Nat) (m3 : Nat) (m4 : Nat) (m5 : Nat) (m6 : Nat) (m7 : Nat) (e0 : Int32) (e1 : Int32) (e2 : Int32) (e3 : Int32) (e4 : Int32) (cm : Nat) (k : Nat) (fo : Nat → Int32) (x : Int32) (hk : k < 1000) : CC l D ty ⟨"PinchedBill$Reckoner", "addFound", "(I)V"⟩ prog_6_method_19_code 2 none 0 0 0 0 [.ref h0, .int x] [(h0, eO 4 [.ref lw, .ref w1, .ref w2, .int e0, .int e1, .int e2, .ref ho, .ref m1, .int (nI cm), .ref m2, .ref m3, .int e3, .ref m4, .int e4, .ref m5, .ref m6, .ref m7, .int (nI k)]), (m7, eI (ty 0) 1000 fo)] (QV D ty (fun (w : va_W) => w = [(h0, eO 4 [.ref lw, .ref w1, .ref w2, .int e0, .int e1, .int e2, .ref ho, .ref m1, .int (nI cm), .ref m2, .ref m3, .int e3, .ref m4, .int e4, .ref m5, .ref m6, .ref m7, .int (nI (k + 1))]), (m7, eI (ty 0) 1000 (upd fo k x))])) := by
  refine CC_of (by decide) ?_
  intro p e s m below meth c A C hP hD hS
  obtain ⟨⟨hx, hb, hml, hown, hts⟩, hr, hlocks, hnm, hK, hE, hA, hZ⟩ := id C
  refine startW [.ref h0, .int x] 2 (nle rfl) (lv := [(0, .ref h0), (1, .int x)]) rfl (fun ls hl => ?_)
  refine lv_aload_n hx hb d_X4_addFound_0 rfl (lv_at hl 0 rfl) ?_
  refine r_get (v := .int (nI k)) C hP 0 rfl rfl lay_X4 17 (by decide) k_427 rfl d_X4_addFound_1 ?_
  refine lv_sipush (v := 1000) hx hb d_X4_addFound_4 (by decide) ?_
  refine b_icmp_geF C 30 d_X4_addFound_7 (by decide) (n_nle 1000 k rfl rfl (by omega) (by omega)) ?_
  refine lv_aload_n hx hb d_X4_addFound_10 rfl (lv_at hl 0 rfl) ?_
  refine r_get (v := .ref m7) C hP 0 rfl rfl lay_X4 16 (by decide) k_426 rfl d_X4_addFound_11 ?_
  refine lv_aload_n hx hb d_X4_addFound_14 rfl (lv_at hl 0 rfl) ?_
  refine r_get (v := .int (nI k)) C hP 0 rfl rfl lay_X4 17 (by decide) k_427 rfl d_X4_addFound_15 ?_
  refine lv_iload_n hx hb d_X4_addFound_18 rfl (lv_at hl 1 rfl) ?_
  refine r_iast (w := [(h0, eO 4 [.ref lw, .ref w1, .ref w2, .int e0, .int e1, .int e2, .ref ho, .ref m1, .int (nI cm), .ref m2, .ref m3, .int e3, .ref m4, .int e4, .ref m5, .ref m6, .ref m7, .int (nI k)]), (m7, eI (ty 0) 1000 (upd fo k x))]) C hP hD hS 1 rfl k rfl (by omega) (by decide) rfl d_X4_addFound_19 (fun H locs hP hD hS => ?_)
  refine lv_aload_n hx hb d_X4_addFound_20 rfl (lv_at hl 0 rfl) ?_
  refine lv_dup hx hb d_X4_addFound_21 rfl ?_
  refine r_get (v := .int (nI k)) C hP 0 rfl rfl lay_X4 17 (by decide) k_427 rfl d_X4_addFound_22 ?_
  refine lv_iconst (v := 1) hx hb d_X4_addFound_25 (by decide) ?_
  refine r_iadd (z := (nI (k + 1))) C d_X4_addFound_26 (a_add k 1 (k + 1) rfl rfl (by omega)) ?_
  refine r_put (w := [(h0, eO 4 [.ref lw, .ref w1, .ref w2, .int e0, .int e1, .int e2, .ref ho, .ref m1, .int (nI cm), .ref m2, .ref m3, .int e3, .ref m4, .int e4, .ref m5, .ref m6, .ref m7, .int (nI (k + 1))]), (m7, eI (ty 0) 1000 (upd fo k x))]) C hP hD hS 0 rfl rfl lay_X4 tok_X4 nmo_X4 17 (by decide) k_427 rfl rfl rfl (nle rfl) rfl d_X4_addFound_27 (fun H locs hP hD hS => ?_)
  exact ret_V (w := [(h0, eO 4 [.ref lw, .ref w1, .ref w2, .int e0, .int e1, .int e2, .ref ho, .ref m1, .int (nI cm), .ref m2, .ref m3, .int e3, .ref m4, .int e4, .ref m5, .ref m6, .ref m7, .int (nI (k + 1))]), (m7, eI (ty 0) 1000 (upd fo k x))]) C hP hD hS [0, 1] rfl rfl rfl (by decide) (by decide) d_X4_addFound_30
set_option maxHeartbeats 4000000 in
set_option maxRecDepth 100000 in
theorem c_findLaws (l : Launch) (D : va_G) (ty : Nat → ClassId) (h0 : Nat) (ho : Nat) (lw : Nat) (l1 : Nat) (l2 : Nat) (l3 : Nat) (l4 : Nat) (w1 : Nat) (w2 : Nat) (m1 : Nat) (m2 : Nat) (m3 : Nat) (m4 : Nat) (m5 : Nat) (m6 : Nat) (m7 : Nat) (g1 : Nat) (g2 : Nat) (g3 : Nat) (e0 : Int32) (e1 : Int32) (e2 : Int32) (e3 : Int32) (e4 : Int32) (e5 : Int32) (cm : Nat) (f : Nat → Int32) (v : Nat → Int32) (fo : Nat → Int32) (hf : B01 f) : CC l D ty ⟨"PinchedBill$Reckoner", "findLaws", "(I)I"⟩ prog_6_method_16_code 4 (some .int) 4 89 0 0 [.ref h0, .int 0] [(h0, eO 4 [.ref lw, .ref w1, .ref w2, .int e0, .int e1, .int e2, .ref ho, .ref m1, .int (nI cm), .ref m2, .ref m3, .int e3, .ref m4, .int e4, .ref m5, .ref m6, .ref m7, .int e5]), (lw, eO 2 [.ref ho, .ref l1, .ref l2, .ref l3, .ref l4]), (ho, eO 0 [.int 0, .int 1, .int 0, .int 0, .int 0, .int 0, .int 0, .int 0, .int 0, .int 0, .ref g1, .ref g2, .ref g3]), (l1, eI (ty 0) 1000 f), (l3, eI (ty 0) 8 v), (m7, eI (ty 0) 1000 fo)] (QI D ty (fun (r : Int32) (w : va_W) => ∃ (fo9 : Nat → Int32), (∀ j, j < 10 → fo9 j = nI (j * 100)) ∧ 10 = r ∧ w = [(h0, eO 4 [.ref lw, .ref w1, .ref w2, .int e0, .int e1, .int e2, .ref ho, .ref m1, .int (nI cm), .ref m2, .ref m3, .int e3, .ref m4, .int e4, .ref m5, .ref m6, .ref m7, .int 10]), (m7, eI (ty 0) 1000 fo9)])) := by
  refine CC_of (by decide) ?_
  intro p e s m below meth c A C hP hD hS
  obtain ⟨⟨hx, hb, hml, hown, hts⟩, hr, hlocks, hnm, hK, hE, hA, hZ⟩ := id C
  refine startW [.ref h0, .int 0] 4 (nle rfl) (lv := [(0, .ref h0), (1, .int 0)]) rfl (fun ls hl => ?_)
  refine lv_aload_n hx hb d_X4_findLaws_0 rfl (lv_at hl 0 rfl) ?_
  refine lv_iconst (v := 0) hx hb d_X4_findLaws_1 (by decide) ?_
  refine r_put (w := [(h0, eO 4 [.ref lw, .ref w1, .ref w2, .int e0, .int e1, .int e2, .ref ho, .ref m1, .int (nI cm), .ref m2, .ref m3, .int e3, .ref m4, .int e4, .ref m5, .ref m6, .ref m7, .int 0]), (lw, eO 2 [.ref ho, .ref l1, .ref l2, .ref l3, .ref l4]), (ho, eO 0 [.int 0, .int 1, .int 0, .int 0, .int 0, .int 0, .int 0, .int 0, .int 0, .int 0, .ref g1, .ref g2, .ref g3]), (l1, eI (ty 0) 1000 f), (l3, eI (ty 0) 8 v), (m7, eI (ty 0) 1000 fo)]) C hP hD hS 0 rfl rfl lay_X4 tok_X4 nmo_X4 17 (by decide) k_427 rfl rfl rfl (nle rfl) rfl d_X4_findLaws_2 (fun H locs hP hD hS => ?_)
  refine lv_iconst (v := 0) hx hb d_X4_findLaws_5 (by decide) ?_
  refine lv_istore_n (lv' := [(2, .int 0), (0, .ref h0), (1, .int 0)]) hx hb d_X4_findLaws_6 rfl hl (by decide) rfl (fun ls hl => ?_)
  refine loopW4 (fun (i : Nat) (f2 : Nat → Int32) (v2 : Nat → Int32) (fo2 : Nat → Int32) (H : Heap) (locs : List Loc) (ls : Array Slot) => (i ≤ 10) ∧ (B01 f2) ∧ (∀ j, j < i → fo2 j = nI (j * 100)) ∧ va_P D vwCl [(h0, eO 4 [.ref lw, .ref w1, .ref w2, .int e0, .int e1, .int e2, .ref ho, .ref m1, .int (nI cm), .ref m2, .ref m3, .int e3, .ref m4, .int e4, .ref m5, .ref m6, .ref m7, .int (nI i)]), (lw, eO 2 [.ref ho, .ref l1, .ref l2, .ref l3, .ref l4]), (ho, eO 0 [.int 0, .int 1, .int 0, .int 0, .int 0, .int 0, .int 0, .int 0, .int 0, .int 0, .ref g1, .ref g2, .ref g3]), (l1, eI (ty 0) 1000 f2), (l3, eI (ty 0) 8 v2), (m7, eI (ty 0) 1000 fo2)] H ∧ va_D A [(h0, eO 4 [.ref lw, .ref w1, .ref w2, .int e0, .int e1, .int e2, .ref ho, .ref m1, .int (nI cm), .ref m2, .ref m3, .int e3, .ref m4, .int e4, .ref m5, .ref m6, .ref m7, .int (nI i)]), (lw, eO 2 [.ref ho, .ref l1, .ref l2, .ref l3, .ref l4]), (ho, eO 0 [.int 0, .int 1, .int 0, .int 0, .int 0, .int 0, .int 0, .int 0, .int 0, .int 0, .ref g1, .ref g2, .ref g3]), (l1, eI (ty 0) 1000 f2), (l3, eI (ty 0) 8 v2), (m7, eI (ty 0) 1000 fo2)] ∧ va_S A s.heap H locs ∧ lv_has ls 4 [(2, .int (nI i)), (0, .ref h0), (1, .int 0)]) (fun (i : Nat) (f2 : Nat → Int32) (v2 : Nat → Int32) (fo2 : Nat → Int32) => 10 - i) ?_ 0 f v fo ⟨(by omega), hf, (fun j h => absurd h (by omega)), hP, hD, hS, lv_sub hl [0, 1, 2] rfl⟩
  intro i f2 v2 fo2 H locs ls hI ih_1
  obtain ⟨hi, hf2, hfo, hP, hD, hS, hl⟩ := hI
  refine lv_iload_n hx hb d_X4_findLaws_7 rfl (lv_at hl 0 rfl) ?_
  refine lv_aload_n hx hb d_X4_findLaws_8 rfl (lv_at hl 1 rfl) ?_
  refine r_get (v := .ref ho) C hP 0 rfl rfl lay_X4 6 (by decide) k_416 rfl d_X4_findLaws_9 ?_
  have ct_2 : Cut [(h0, eO 4 [.ref lw, .ref w1, .ref w2, .int e0, .int e1, .int e2, .ref ho, .ref m1, .int (nI cm), .ref m2, .ref m3, .int e3, .ref m4, .int e4, .ref m5, .ref m6, .ref m7, .int (nI i)]), (lw, eO 2 [.ref ho, .ref l1, .ref l2, .ref l3, .ref l4]), (ho, eO 0 [.int 0, .int 1, .int 0, .int 0, .int 0, .int 0, .int 0, .int 0, .int 0, .int 0, .ref g1, .ref g2, .ref g3]), (l1, eI (ty 0) 1000 f2), (l3, eI (ty 0) 8 v2), (m7, eI (ty 0) 1000 fo2)] [(ho, eO 0 [.int 0, .int 1, .int 0, .int 0, .int 0, .int 0, .int 0, .int 0, .int 0, .int 0, .ref g1, .ref g2, .ref g3])] [(h0, eO 4 [.ref lw, .ref w1, .ref w2, .int e0, .int e1, .int e2, .ref ho, .ref m1, .int (nI cm), .ref m2, .ref m3, .int e3, .ref m4, .int e4, .ref m5, .ref m6, .ref m7, .int (nI i)]), (lw, eO 2 [.ref ho, .ref l1, .ref l2, .ref l3, .ref l4]), (l1, eI (ty 0) 1000 f2), (l3, eI (ty 0) 8 v2), (m7, eI (ty 0) 1000 fo2)] [2] [0, 1, 3, 4, 5] := ⟨rfl, rfl, rfl, rfl, by decide⟩
  refine cont_I C hP hD hS ct_2 (run_V (As := []) (rest := [.int (nI i)]) C hP hD hS ct_2 (c_bills l D ty ho g1 g2 g3) kV_PinchedBill_Reckoner_107 2 rfl rfl rfl rfl hl.1 rfl (nle rfl) d_X4_findLaws_12 ⟨by decide, by decide, by decide, by decide⟩) (fun r_4 w_5 H locs hw_3 hP hD hS => ?_)
  obtain ⟨rfl, rfl⟩ := hw_3
  have hP : va_P D vwCl [(h0, eO 4 [.ref lw, .ref w1, .ref w2, .int e0, .int e1, .int e2, .ref ho, .ref m1, .int (nI cm), .ref m2, .ref m3, .int e3, .ref m4, .int e4, .ref m5, .ref m6, .ref m7, .int (nI i)]), (lw, eO 2 [.ref ho, .ref l1, .ref l2, .ref l3, .ref l4]), (l1, eI (ty 0) 1000 f2), (l3, eI (ty 0) 8 v2), (m7, eI (ty 0) 1000 fo2), (ho, eO 0 [.int 0, .int 1, .int 0, .int 0, .int 0, .int 0, .int 0, .int 0, .int 0, .int 0, .ref g1, .ref g2, .ref g3])] H := hP
  have hD : va_D A [(h0, eO 4 [.ref lw, .ref w1, .ref w2, .int e0, .int e1, .int e2, .ref ho, .ref m1, .int (nI cm), .ref m2, .ref m3, .int e3, .ref m4, .int e4, .ref m5, .ref m6, .ref m7, .int (nI i)]), (lw, eO 2 [.ref ho, .ref l1, .ref l2, .ref l3, .ref l4]), (l1, eI (ty 0) 1000 f2), (l3, eI (ty 0) 8 v2), (m7, eI (ty 0) 1000 fo2), (ho, eO 0 [.int 0, .int 1, .int 0, .int 0, .int 0, .int 0, .int 0, .int 0, .int 0, .int 0, .ref g1, .ref g2, .ref g3])] := hD
  refine lv_icmp_ge (tgt := 50) hx hb d_X4_findLaws_15 (by decide) (fun hc_6 => ?_) (fun hc_6 => ?_)
  · have hc_6 := un_le 10 i rfl rfl (by omega) (by omega) hc_6
    obtain rfl : i = 10 := by omega
    refine lv_aload_n hx hb d_X4_findLaws_50 rfl (lv_at hl 1 rfl) ?_
    refine r_get (v := .int 10) C hP 0 rfl rfl lay_X4 17 (by decide) k_427 rfl d_X4_findLaws_51 ?_
    exact ret_I (w := [(h0, eO 4 [.ref lw, .ref w1, .ref w2, .int e0, .int e1, .int e2, .ref ho, .ref m1, .int (nI cm), .ref m2, .ref m3, .int e3, .ref m4, .int e4, .ref m5, .ref m6, .ref m7, .int 10]), (m7, eI (ty 0) 1000 fo2)]) C hP hD hS [0, 4] rfl rfl ⟨fo2, hfo, rfl, rfl⟩ (by decide) (by decide) d_X4_findLaws_54
  · have hc_6 := un_nle 10 i rfl rfl (by omega) (by omega) hc_6
    refine lv_aload_n hx hb d_X4_findLaws_18 rfl (lv_at hl 1 rfl) ?_
    refine r_get (v := .ref ho) C hP 0 rfl rfl lay_X4 6 (by decide) k_416 rfl d_X4_findLaws_19 ?_
    refine lv_iload_n hx hb d_X4_findLaws_22 rfl (lv_at hl 0 rfl) ?_
    have ct_7 : Cut [(h0, eO 4 [.ref lw, .ref w1, .ref w2, .int e0, .int e1, .int e2, .ref ho, .ref m1, .int (nI cm), .ref m2, .ref m3, .int e3, .ref m4, .int e4, .ref m5, .ref m6, .ref m7, .int (nI i)]), (lw, eO 2 [.ref ho, .ref l1, .ref l2, .ref l3, .ref l4]), (l1, eI (ty 0) 1000 f2), (l3, eI (ty 0) 8 v2), (m7, eI (ty 0) 1000 fo2), (ho, eO 0 [.int 0, .int 1, .int 0, .int 0, .int 0, .int 0, .int 0, .int 0, .int 0, .int 0, .ref g1, .ref g2, .ref g3])] [(ho, eO 0 [.int 0, .int 1, .int 0, .int 0, .int 0, .int 0, .int 0, .int 0, .int 0, .int 0, .ref g1, .ref g2, .ref g3])] [(h0, eO 4 [.ref lw, .ref w1, .ref w2, .int e0, .int e1, .int e2, .ref ho, .ref m1, .int (nI cm), .ref m2, .ref m3, .int e3, .ref m4, .int e4, .ref m5, .ref m6, .ref m7, .int (nI i)]), (lw, eO 2 [.ref ho, .ref l1, .ref l2, .ref l3, .ref l4]), (l1, eI (ty 0) 1000 f2), (l3, eI (ty 0) 8 v2), (m7, eI (ty 0) 1000 fo2)] [5] [0, 1, 2, 3, 4] := ⟨rfl, rfl, rfl, rfl, by decide⟩
    refine cont_I C hP hD hS ct_7 (run_V (As := [.int (nI i)]) (rest := []) C hP hD hS ct_7 (c_billAt l D ty ho g1 g2 g3 i (by omega)) kV_PinchedBill_Reckoner_112 5 rfl rfl rfl rfl hl.1 rfl (nle rfl) d_X4_findLaws_23 ⟨by decide, by decide, by decide, by decide⟩) (fun r_9 w_10 H locs hw_8 hP hD hS => ?_)
    obtain ⟨rfl, rfl⟩ := hw_8
    have hP : va_P D vwCl [(h0, eO 4 [.ref lw, .ref w1, .ref w2, .int e0, .int e1, .int e2, .ref ho, .ref m1, .int (nI cm), .ref m2, .ref m3, .int e3, .ref m4, .int e4, .ref m5, .ref m6, .ref m7, .int (nI i)]), (lw, eO 2 [.ref ho, .ref l1, .ref l2, .ref l3, .ref l4]), (l1, eI (ty 0) 1000 f2), (l3, eI (ty 0) 8 v2), (m7, eI (ty 0) 1000 fo2), (ho, eO 0 [.int 0, .int 1, .int 0, .int 0, .int 0, .int 0, .int 0, .int 0, .int 0, .int 0, .ref g1, .ref g2, .ref g3])] H := hP
    have hD : va_D A [(h0, eO 4 [.ref lw, .ref w1, .ref w2, .int e0, .int e1, .int e2, .ref ho, .ref m1, .int (nI cm), .ref m2, .ref m3, .int e3, .ref m4, .int e4, .ref m5, .ref m6, .ref m7, .int (nI i)]), (lw, eO 2 [.ref ho, .ref l1, .ref l2, .ref l3, .ref l4]), (l1, eI (ty 0) 1000 f2), (l3, eI (ty 0) 8 v2), (m7, eI (ty 0) 1000 fo2), (ho, eO 0 [.int 0, .int 1, .int 0, .int 0, .int 0, .int 0, .int 0, .int 0, .int 0, .int 0, .ref g1, .ref g2, .ref g3])] := hD
    refine lv_istore_n (lv' := [(3, .int (nI (i * 100))), (2, .int (nI i)), (0, .ref h0), (1, .int 0)]) hx hb d_X4_findLaws_26 rfl hl (by decide) rfl (fun ls hl => ?_)
    refine lv_aload_n hx hb d_X4_findLaws_27 rfl (lv_at hl 2 rfl) ?_
    refine r_get (v := .ref lw) C hP 0 rfl rfl lay_X4 0 (by decide) k_404 rfl d_X4_findLaws_28 ?_
    refine lv_iload_n hx hb d_X4_findLaws_31 rfl (lv_at hl 0 rfl) ?_
    refine lv_iload_n hx hb d_X4_findLaws_32 rfl (lv_at hl 3 rfl) ?_
    have ct_11 : Cut [(h0, eO 4 [.ref lw, .ref w1, .ref w2, .int e0, .int e1, .int e2, .ref ho, .ref m1, .int (nI cm), .ref m2, .ref m3, .int e3, .ref m4, .int e4, .ref m5, .ref m6, .ref m7, .int (nI i)]), (lw, eO 2 [.ref ho, .ref l1, .ref l2, .ref l3, .ref l4]), (l1, eI (ty 0) 1000 f2), (l3, eI (ty 0) 8 v2), (m7, eI (ty 0) 1000 fo2), (ho, eO 0 [.int 0, .int 1, .int 0, .int 0, .int 0, .int 0, .int 0, .int 0, .int 0, .int 0, .ref g1, .ref g2, .ref g3])] [(lw, eO 2 [.ref ho, .ref l1, .ref l2, .ref l3, .ref l4]), (ho, eO 0 [.int 0, .int 1, .int 0, .int 0, .int 0, .int 0, .int 0, .int 0, .int 0, .int 0, .ref g1, .ref g2, .ref g3]), (l1, eI (ty 0) 1000 f2), (l3, eI (ty 0) 8 v2)] [(h0, eO 4 [.ref lw, .ref w1, .ref w2, .int e0, .int e1, .int e2, .ref ho, .ref m1, .int (nI cm), .ref m2, .ref m3, .int e3, .ref m4, .int e4, .ref m5, .ref m6, .ref m7, .int (nI i)]), (m7, eI (ty 0) 1000 fo2)] [1, 5, 2, 3] [0, 4] := ⟨rfl, rfl, rfl, rfl, by decide⟩
    refine cont_I C hP hD hS ct_11 (run_V (As := [.int (nI (i * 100)), .int 0]) (rest := []) C hP hD hS ct_11 (c_isLaw l D ty lw ho l1 l2 l3 l4 g1 g2 g3 f2 v2 (i * 100) (by omega) hf2) kV_PinchedBill_Reckoner_156 1 rfl rfl rfl rfl hl.1 rfl (nle rfl) d_X4_findLaws_33 ⟨by decide, by decide, by decide, by decide⟩) (fun r_15 w_16 H locs hw_14 hP hD hS => ?_)
    obtain ⟨f9_12, v9_13, hf9_17, rfl, rfl⟩ := hw_14
    have hP : va_P D vwCl [(h0, eO 4 [.ref lw, .ref w1, .ref w2, .int e0, .int e1, .int e2, .ref ho, .ref m1, .int (nI cm), .ref m2, .ref m3, .int e3, .ref m4, .int e4, .ref m5, .ref m6, .ref m7, .int (nI i)]), (m7, eI (ty 0) 1000 fo2), (lw, eO 2 [.ref ho, .ref l1, .ref l2, .ref l3, .ref l4]), (ho, eO 0 [.int 0, .int 1, .int 0, .int 0, .int 0, .int 0, .int 0, .int 0, .int 0, .int 0, .ref g1, .ref g2, .ref g3]), (l1, eI (ty 0) 1000 f9_12), (l3, eI (ty 0) 8 v9_13)] H := hP
    have hD : va_D A [(h0, eO 4 [.ref lw, .ref w1, .ref w2, .int e0, .int e1, .int e2, .ref ho, .ref m1, .int (nI cm), .ref m2, .ref m3, .int e3, .ref m4, .int e4, .ref m5, .ref m6, .ref m7, .int (nI i)]), (m7, eI (ty 0) 1000 fo2), (lw, eO 2 [.ref ho, .ref l1, .ref l2, .ref l3, .ref l4]), (ho, eO 0 [.int 0, .int 1, .int 0, .int 0, .int 0, .int 0, .int 0, .int 0, .int 0, .int 0, .ref g1, .ref g2, .ref g3]), (l1, eI (ty 0) 1000 f9_12), (l3, eI (ty 0) 8 v9_13)] := hD
    refine b_if_eqF C 44 d_X4_findLaws_36 (by decide) (by decide) ?_
    refine lv_aload_n hx hb d_X4_findLaws_39 rfl (lv_at hl 2 rfl) ?_
    refine lv_iload_n hx hb d_X4_findLaws_40 rfl (lv_at hl 0 rfl) ?_
    have ct_18 : Cut [(h0, eO 4 [.ref lw, .ref w1, .ref w2, .int e0, .int e1, .int e2, .ref ho, .ref m1, .int (nI cm), .ref m2, .ref m3, .int e3, .ref m4, .int e4, .ref m5, .ref m6, .ref m7, .int (nI i)]), (m7, eI (ty 0) 1000 fo2), (lw, eO 2 [.ref ho, .ref l1, .ref l2, .ref l3, .ref l4]), (ho, eO 0 [.int 0, .int 1, .int 0, .int 0, .int 0, .int 0, .int 0, .int 0, .int 0, .int 0, .ref g1, .ref g2, .ref g3]), (l1, eI (ty 0) 1000 f9_12), (l3, eI (ty 0) 8 v9_13)] [(h0, eO 4 [.ref lw, .ref w1, .ref w2, .int e0, .int e1, .int e2, .ref ho, .ref m1, .int (nI cm), .ref m2, .ref m3, .int e3, .ref m4, .int e4, .ref m5, .ref m6, .ref m7, .int (nI i)]), (m7, eI (ty 0) 1000 fo2)] [(lw, eO 2 [.ref ho, .ref l1, .ref l2, .ref l3, .ref l4]), (ho, eO 0 [.int 0, .int 1, .int 0, .int 0, .int 0, .int 0, .int 0, .int 0, .int 0, .int 0, .ref g1, .ref g2, .ref g3]), (l1, eI (ty 0) 1000 f9_12), (l3, eI (ty 0) 8 v9_13)] [0, 1] [2, 3, 4, 5] := ⟨rfl, rfl, rfl, rfl, by decide⟩
    refine cont_V C hP hD hS ct_18 (run_V (As := [.int (nI (i * 100))]) (rest := []) C hP hD hS ct_18 (c_addFound l D ty h0 ho lw w1 w2 m1 m2 m3 m4 m5 m6 m7 e0 e1 e2 e3 e4 cm i fo2 (nI (i * 100)) (by omega)) kV_PinchedBill_Reckoner_160 0 rfl rfl rfl rfl hl.1 rfl (nle rfl) d_X4_findLaws_41 ⟨by decide, by decide, by decide, by decide⟩) (fun w_21 H locs hw_19 hP hD hS => ?_)
    subst hw_19
    have hP : va_P D vwCl [(lw, eO 2 [.ref ho, .ref l1, .ref l2, .ref l3, .ref l4]), (ho, eO 0 [.int 0, .int 1, .int 0, .int 0, .int 0, .int 0, .int 0, .int 0, .int 0, .int 0, .ref g1, .ref g2, .ref g3]), (l1, eI (ty 0) 1000 f9_12), (l3, eI (ty 0) 8 v9_13), (h0, eO 4 [.ref lw, .ref w1, .ref w2, .int e0, .int e1, .int e2, .ref ho, .ref m1, .int (nI cm), .ref m2, .ref m3, .int e3, .ref m4, .int e4, .ref m5, .ref m6, .ref m7, .int (nI (i + 1))]), (m7, eI (ty 0) 1000 (upd fo2 i (nI (i * 100))))] H := hP
    have hD : va_D A [(lw, eO 2 [.ref ho, .ref l1, .ref l2, .ref l3, .ref l4]), (ho, eO 0 [.int 0, .int 1, .int 0, .int 0, .int 0, .int 0, .int 0, .int 0, .int 0, .int 0, .ref g1, .ref g2, .ref g3]), (l1, eI (ty 0) 1000 f9_12), (l3, eI (ty 0) 8 v9_13), (h0, eO 4 [.ref lw, .ref w1, .ref w2, .int e0, .int e1, .int e2, .ref ho, .ref m1, .int (nI cm), .ref m2, .ref m3, .int e3, .ref m4, .int e4, .ref m5, .ref m6, .ref m7, .int (nI (i + 1))]), (m7, eI (ty 0) 1000 (upd fo2 i (nI (i * 100))))] := hD
    refine lv_iinc (v := (nI (i + 1))) (lv' := [(2, .int (nI (i + 1))), (3, .int (nI (i * 100))), (0, .ref h0), (1, .int 0)]) (k := 1) hx hb d_X4_findLaws_44 hl rfl (a_inc i 1 (i + 1) rfl rfl) (by decide) rfl (fun ls hl => ?_)
    refine lv_goto (tgt := 7) hx hb d_X4_findLaws_47 (by decide) ?_
    exact ih_1 (i + 1) f9_12 v9_13 (upd fo2 i (nI (i * 100))) _ _ _ (by omega) ⟨(by omega), hf9_17, (up_I hfo rfl), sub_P hP (is := [4, 0, 1, 2, 3, 5]) rfl, hD.sub [4, 0, 1, 2, 3, 5] (by decide) rfl, hS, lv_sub hl [0, 2, 3] rfl⟩
set_option maxHeartbeats 4000000 in
set_option maxRecDepth 100000 in
theorem c_foundAt10 (l : Launch) (D : va_G) (ty : Nat → ClassId) (h0 : Nat) (ho : Nat) (lw : Nat) (w1 : Nat) (w2 : Nat) (m1 : Nat) (m2 : Nat) (m3 : Nat) (m4 : Nat) (m5 : Nat) (m6 : Nat) (m7 : Nat) (e0 : Int32) (e1 : Int32) (e2 : Int32) (e3 : Int32) (e4 : Int32) (cm : Nat) (fo : Nat → Int32) (k : Nat) (hk : k < 10) (hfo : ∀ j, j < 10 → fo j = nI (j * 100)) : CC l D ty ⟨"PinchedBill$Reckoner", "foundAt", "(I)I"⟩ prog_6_method_20_code 2 (some .int) 0 0 0 0 [.ref h0, .int (nI k)] [(h0, eO 4 [.ref lw, .ref w1, .ref w2, .int e0, .int e1, .int e2, .ref ho, .ref m1, .int (nI cm), .ref m2, .ref m3, .int e3, .ref m4, .int e4, .ref m5, .ref m6, .ref m7, .int 10]), (m7, eI (ty 0) 1000 fo)] (QI D ty (fun (r : Int32) (w : va_W) => (nI (k * 100)) = r ∧ w = [(h0, eO 4 [.ref lw, .ref w1, .ref w2, .int e0, .int e1, .int e2, .ref ho, .ref m1, .int (nI cm), .ref m2, .ref m3, .int e3, .ref m4, .int e4, .ref m5, .ref m6, .ref m7, .int 10]), (m7, eI (ty 0) 1000 fo)])) := by
  refine CC_of (by decide) ?_
  intro p e s m below meth c A C hP hD hS
  obtain ⟨⟨hx, hb, hml, hown, hts⟩, hr, hlocks, hnm, hK, hE, hA, hZ⟩ := id C
  refine startW [.ref h0, .int (nI k)] 2 (nle rfl) (lv := [(0, .ref h0), (1, .int (nI k))]) rfl (fun ls hl => ?_)
  refine lv_iload_n hx hb d_X4_foundAt_0 rfl (lv_at hl 1 rfl) ?_
  refine b_if_ltF C 28 d_X4_foundAt_1 (by decide) (n_nlt k 0 rfl rfl (by omega) (by omega)) ?_
  refine lv_iload_n hx hb d_X4_foundAt_4 rfl (lv_at hl 1 rfl) ?_
  refine lv_aload_n hx hb d_X4_foundAt_5 rfl (lv_at hl 0 rfl) ?_
  refine r_get (v := .int 10) C hP 0 rfl rfl lay_X4 17 (by decide) k_427 rfl d_X4_foundAt_6 ?_
  refine b_icmp_geF C 28 d_X4_foundAt_9 (by decide) (n_nle 10 k rfl rfl (by omega) (by omega)) ?_
  refine lv_iload_n hx hb d_X4_foundAt_12 rfl (lv_at hl 1 rfl) ?_
  refine lv_sipush (v := 1000) hx hb d_X4_foundAt_13 (by decide) ?_
  refine b_icmp_geF C 28 d_X4_foundAt_16 (by decide) (n_nle 1000 k rfl rfl (by omega) (by omega)) ?_
  refine lv_aload_n hx hb d_X4_foundAt_19 rfl (lv_at hl 0 rfl) ?_
  refine r_get (v := .ref m7) C hP 0 rfl rfl lay_X4 16 (by decide) k_426 rfl d_X4_foundAt_20 ?_
  refine lv_iload_n hx hb d_X4_foundAt_23 rfl (lv_at hl 1 rfl) ?_
  refine r_iald (v := (nI (k * 100))) C hP 1 rfl k rfl (by omega) (by decide) (hfo k (by omega)) d_X4_foundAt_24 ?_
  refine lv_goto (tgt := 29) hx hb d_X4_foundAt_25 (by decide) ?_
  exact ret_I (w := [(h0, eO 4 [.ref lw, .ref w1, .ref w2, .int e0, .int e1, .int e2, .ref ho, .ref m1, .int (nI cm), .ref m2, .ref m3, .int e3, .ref m4, .int e4, .ref m5, .ref m6, .ref m7, .int 10]), (m7, eI (ty 0) 1000 fo)]) C hP hD hS [0, 1] rfl rfl ⟨rfl, rfl⟩ (by decide) (by decide) d_X4_foundAt_29
set_option maxHeartbeats 4000000 in
set_option maxRecDepth 100000 in
theorem c_foundAt (l : Launch) (D : va_G) (ty : Nat → ClassId) (h0 : Nat) (ho : Nat) (lw : Nat) (w1 : Nat) (w2 : Nat) (m1 : Nat) (m2 : Nat) (m3 : Nat) (m4 : Nat) (m5 : Nat) (m6 : Nat) (m7 : Nat) (e0 : Int32) (e1 : Int32) (e2 : Int32) (e3 : Int32) (e4 : Int32) (cm : Nat) (fo : Nat → Int32) (k : Nat) (hk : k < 2147483648) (hfo : ∀ j, j < 10 → fo j = nI (j * 100)) : CC l D ty ⟨"PinchedBill$Reckoner", "foundAt", "(I)I"⟩ prog_6_method_20_code 2 (some .int) 0 0 0 0 [.ref h0, .int (nI k)] [(h0, eO 4 [.ref lw, .ref w1, .ref w2, .int e0, .int e1, .int e2, .ref ho, .ref m1, .int (nI cm), .ref m2, .ref m3, .int e3, .ref m4, .int e4, .ref m5, .ref m6, .ref m7, .int 10]), (m7, eI (ty 0) 1000 fo)] (QI D ty (fun (r : Int32) (w : va_W) => (fA k) = r ∧ w = [(h0, eO 4 [.ref lw, .ref w1, .ref w2, .int e0, .int e1, .int e2, .ref ho, .ref m1, .int (nI cm), .ref m2, .ref m3, .int e3, .ref m4, .int e4, .ref m5, .ref m6, .ref m7, .int 10]), (m7, eI (ty 0) 1000 fo)])) := by
  refine CC_of (by decide) ?_
  intro p e s m below meth c A C hP hD hS
  obtain ⟨⟨hx, hb, hml, hown, hts⟩, hr, hlocks, hnm, hK, hE, hA, hZ⟩ := id C
  refine startW [.ref h0, .int (nI k)] 2 (nle rfl) (lv := [(0, .ref h0), (1, .int (nI k))]) rfl (fun ls hl => ?_)
  refine lv_iload_n hx hb d_X4_foundAt_0 rfl (lv_at hl 1 rfl) ?_
  refine b_if_ltF C 28 d_X4_foundAt_1 (by decide) (n_nlt k 0 rfl rfl (by omega) (by omega)) ?_
  refine lv_iload_n hx hb d_X4_foundAt_4 rfl (lv_at hl 1 rfl) ?_
  refine lv_aload_n hx hb d_X4_foundAt_5 rfl (lv_at hl 0 rfl) ?_
  refine r_get (v := .int 10) C hP 0 rfl rfl lay_X4 17 (by decide) k_427 rfl d_X4_foundAt_6 ?_
  refine lv_icmp_ge (tgt := 28) hx hb d_X4_foundAt_9 (by decide) (fun hc_1 => ?_) (fun hc_1 => ?_)
  · have hc_1 := un_le 10 k rfl rfl (by omega) (by omega) hc_1
    refine lv_iconst (v := (-1)) hx hb d_X4_foundAt_28 (by decide) ?_
    exact ret_I (w := [(h0, eO 4 [.ref lw, .ref w1, .ref w2, .int e0, .int e1, .int e2, .ref ho, .ref m1, .int (nI cm), .ref m2, .ref m3, .int e3, .ref m4, .int e4, .ref m5, .ref m6, .ref m7, .int 10]), (m7, eI (ty 0) 1000 fo)]) C hP hD hS [0, 1] rfl rfl ⟨(Eq.symm (fA_out (by omega))), rfl⟩ (by decide) (by decide) d_X4_foundAt_29
  · have hc_1 := un_nle 10 k rfl rfl (by omega) (by omega) hc_1
    refine lv_iload_n hx hb d_X4_foundAt_12 rfl (lv_at hl 1 rfl) ?_
    refine lv_sipush (v := 1000) hx hb d_X4_foundAt_13 (by decide) ?_
    refine b_icmp_geF C 28 d_X4_foundAt_16 (by decide) (n_nle 1000 k rfl rfl (by omega) (by omega)) ?_
    refine lv_aload_n hx hb d_X4_foundAt_19 rfl (lv_at hl 0 rfl) ?_
    refine r_get (v := .ref m7) C hP 0 rfl rfl lay_X4 16 (by decide) k_426 rfl d_X4_foundAt_20 ?_
    refine lv_iload_n hx hb d_X4_foundAt_23 rfl (lv_at hl 1 rfl) ?_
    refine r_iald (v := (nI (k * 100))) C hP 1 rfl k rfl (by omega) (by decide) (hfo k (by omega)) d_X4_foundAt_24 ?_
    refine lv_goto (tgt := 29) hx hb d_X4_foundAt_25 (by decide) ?_
    exact ret_I (w := [(h0, eO 4 [.ref lw, .ref w1, .ref w2, .int e0, .int e1, .int e2, .ref ho, .ref m1, .int (nI cm), .ref m2, .ref m3, .int e3, .ref m4, .int e4, .ref m5, .ref m6, .ref m7, .int 10]), (m7, eI (ty 0) 1000 fo)]) C hP hD hS [0, 1] rfl rfl ⟨(Eq.symm (fA_in (by omega))), rfl⟩ (by decide) (by decide) d_X4_foundAt_29
set_option maxHeartbeats 4000000 in
set_option maxRecDepth 100000 in
theorem c_foundAt1 (l : Launch) (D : va_G) (ty : Nat → ClassId) (h0 : Nat) (ho : Nat) (lw : Nat) (w1 : Nat) (w2 : Nat) (m1 : Nat) (m2 : Nat) (m3 : Nat) (m4 : Nat) (m5 : Nat) (m6 : Nat) (m7 : Nat) (e0 : Int32) (e1 : Int32) (e2 : Int32) (e3 : Int32) (e4 : Int32) (cm : Nat) (fo : Nat → Int32) (k : Nat) (b : Nat) (hk : k < 2147483648) (hfo : fo 0 = nI b) : CC l D ty ⟨"PinchedBill$Reckoner", "foundAt", "(I)I"⟩ prog_6_method_20_code 2 (some .int) 0 0 0 0 [.ref h0, .int (nI k)] [(h0, eO 4 [.ref lw, .ref w1, .ref w2, .int e0, .int e1, .int e2, .ref ho, .ref m1, .int (nI cm), .ref m2, .ref m3, .int e3, .ref m4, .int e4, .ref m5, .ref m6, .ref m7, .int 1]), (m7, eI (ty 0) 1000 fo)] (QI D ty (fun (r : Int32) (w : va_W) => (if k = 0 then nI b else (-1)) = r ∧ w = [(h0, eO 4 [.ref lw, .ref w1, .ref w2, .int e0, .int e1, .int e2, .ref ho, .ref m1, .int (nI cm), .ref m2, .ref m3, .int e3, .ref m4, .int e4, .ref m5, .ref m6, .ref m7, .int 1]), (m7, eI (ty 0) 1000 fo)])) := by
  refine CC_of (by decide) ?_
  intro p e s m below meth c A C hP hD hS
  obtain ⟨⟨hx, hb, hml, hown, hts⟩, hr, hlocks, hnm, hK, hE, hA, hZ⟩ := id C
  refine startW [.ref h0, .int (nI k)] 2 (nle rfl) (lv := [(0, .ref h0), (1, .int (nI k))]) rfl (fun ls hl => ?_)
  refine lv_iload_n hx hb d_X4_foundAt_0 rfl (lv_at hl 1 rfl) ?_
  refine b_if_ltF C 28 d_X4_foundAt_1 (by decide) (n_nlt k 0 rfl rfl (by omega) (by omega)) ?_
  refine lv_iload_n hx hb d_X4_foundAt_4 rfl (lv_at hl 1 rfl) ?_
  refine lv_aload_n hx hb d_X4_foundAt_5 rfl (lv_at hl 0 rfl) ?_
  refine r_get (v := .int 1) C hP 0 rfl rfl lay_X4 17 (by decide) k_427 rfl d_X4_foundAt_6 ?_
  refine lv_icmp_ge (tgt := 28) hx hb d_X4_foundAt_9 (by decide) (fun hc_1 => ?_) (fun hc_1 => ?_)
  · have hc_1 := un_le 1 k rfl rfl (by omega) (by omega) hc_1
    refine lv_iconst (v := (-1)) hx hb d_X4_foundAt_28 (by decide) ?_
    exact ret_I (w := [(h0, eO 4 [.ref lw, .ref w1, .ref w2, .int e0, .int e1, .int e2, .ref ho, .ref m1, .int (nI cm), .ref m2, .ref m3, .int e3, .ref m4, .int e4, .ref m5, .ref m6, .ref m7, .int 1]), (m7, eI (ty 0) 1000 fo)]) C hP hD hS [0, 1] rfl rfl ⟨(Eq.symm (by rw [if_neg (by omega)])), rfl⟩ (by decide) (by decide) d_X4_foundAt_29
  · have hc_1 := un_nle 1 k rfl rfl (by omega) (by omega) hc_1
    refine lv_iload_n hx hb d_X4_foundAt_12 rfl (lv_at hl 1 rfl) ?_
    refine lv_sipush (v := 1000) hx hb d_X4_foundAt_13 (by decide) ?_
    refine b_icmp_geF C 28 d_X4_foundAt_16 (by decide) (n_nle 1000 k rfl rfl (by omega) (by omega)) ?_
    refine lv_aload_n hx hb d_X4_foundAt_19 rfl (lv_at hl 0 rfl) ?_
    refine r_get (v := .ref m7) C hP 0 rfl rfl lay_X4 16 (by decide) k_426 rfl d_X4_foundAt_20 ?_
    refine lv_iload_n hx hb d_X4_foundAt_23 rfl (lv_at hl 1 rfl) ?_
    refine r_iald (v := (nI b)) C hP 1 rfl k rfl (by omega) (by decide) (by obtain rfl : k = 0 := (by omega); exact hfo) d_X4_foundAt_24 ?_
    refine lv_goto (tgt := 29) hx hb d_X4_foundAt_25 (by decide) ?_
    exact ret_I (w := [(h0, eO 4 [.ref lw, .ref w1, .ref w2, .int e0, .int e1, .int e2, .ref ho, .ref m1, .int (nI cm), .ref m2, .ref m3, .int e3, .ref m4, .int e4, .ref m5, .ref m6, .ref m7, .int 1]), (m7, eI (ty 0) 1000 fo)]) C hP hD hS [0, 1] rfl rfl ⟨(Eq.symm (by rw [if_pos (by omega)])), rfl⟩ (by decide) (by decide) d_X4_foundAt_29
set_option maxHeartbeats 4000000 in
set_option maxRecDepth 100000 in
theorem c_findBefore (l : Launch) (D : va_G) (ty : Nat → ClassId) (h0 : Nat) (ho : Nat) (lw : Nat) (l1 : Nat) (l2 : Nat) (l3 : Nat) (l4 : Nat) (w1 : Nat) (w2 : Nat) (m1 : Nat) (m2 : Nat) (m3 : Nat) (m4 : Nat) (m5 : Nat) (m6 : Nat) (m7 : Nat) (g1 : Nat) (g2 : Nat) (g3 : Nat) (e0 : Int32) (e1 : Int32) (e2 : Int32) (e3 : Int32) (e4 : Int32) (e5 : Int32) (cm : Nat) (wb : Int32) (wk : Int32) (f : Nat → Int32) (v : Nat → Int32) (fo : Nat → Int32) (q : Nat) (n : Int32) (hf : B01 f) (hq : q < 10) : CC l D ty ⟨"PinchedBill$Reckoner", "findBefore", "(III)I"⟩ prog_6_method_17_code 6 (some .int) 6 137 0 0 [.ref h0, .int (nI (100 * q)), .int n, .int 0] [(h0, eO 4 [.ref lw, .ref w1, .ref w2, .int e0, .int e1, .int e2, .ref ho, .ref m1, .int (nI cm), .ref m2, .ref m3, .int e3, .ref m4, .int e4, .ref m5, .ref m6, .ref m7, .int e5]), (lw, eO 2 [.ref ho, .ref l1, .ref l2, .ref l3, .ref l4]), (ho, eO 0 [.int 0, .int 1, .int 0, .int 0, .int 0, .int 0, .int 0, .int 0, .int 0, .int 0, .ref g1, .ref g2, .ref g3]), (l1, eI (ty 0) 1000 f), (l3, eI (ty 0) 8 v), (w1, eO 7 [.int wb, .int wk]), (m7, eI (ty 0) 1000 fo)] (QI D ty (fun (r : Int32) (w : va_W) => ∃ (fo9 : Nat → Int32), (fo9 0 = nI (100 * q)) ∧ 1 = r ∧ w = [(h0, eO 4 [.ref lw, .ref w1, .ref w2, .int e0, .int e1, .int e2, .ref ho, .ref m1, .int (nI cm), .ref m2, .ref m3, .int e3, .ref m4, .int e4, .ref m5, .ref m6, .ref m7, .int 1]), (m7, eI (ty 0) 1000 fo9)])) := by
  refine CC_of (by decide) ?_
  intro p e s m below meth c A C hP hD hS
  obtain ⟨⟨hx, hb, hml, hown, hts⟩, hr, hlocks, hnm, hK, hE, hA, hZ⟩ := id C
  refine startW [.ref h0, .int (nI (100 * q)), .int n, .int 0] 6 (nle rfl) (lv := [(0, .ref h0), (1, .int (nI (100 * q))), (2, .int n), (3, .int 0)]) rfl (fun ls hl => ?_)
  refine lv_aload_n hx hb d_X4_findBefore_0 rfl (lv_at hl 0 rfl) ?_
  refine lv_iconst (v := 0) hx hb d_X4_findBefore_1 (by decide) ?_
  refine r_put (w := [(h0, eO 4 [.ref lw, .ref w1, .ref w2, .int e0, .int e1, .int e2, .ref ho, .ref m1, .int (nI cm), .ref m2, .ref m3, .int e3, .ref m4, .int e4, .ref m5, .ref m6, .ref m7, .int 0]), (lw, eO 2 [.ref ho, .ref l1, .ref l2, .ref l3, .ref l4]), (ho, eO 0 [.int 0, .int 1, .int 0, .int 0, .int 0, .int 0, .int 0, .int 0, .int 0, .int 0, .ref g1, .ref g2, .ref g3]), (l1, eI (ty 0) 1000 f), (l3, eI (ty 0) 8 v), (w1, eO 7 [.int wb, .int wk]), (m7, eI (ty 0) 1000 fo)]) C hP hD hS 0 rfl rfl lay_X4 tok_X4 nmo_X4 17 (by decide) k_427 rfl rfl rfl (nle rfl) rfl d_X4_findBefore_2 (fun H locs hP hD hS => ?_)
  refine lv_iconst (v := 0) hx hb d_X4_findBefore_5 (by decide) ?_
  refine lv_istore (lv' := [(4, .int 0), (0, .ref h0), (1, .int (nI (100 * q))), (2, .int n), (3, .int 0)]) hx hb d_X4_findBefore_6 hl (by decide) rfl (fun ls hl => ?_)
  refine loopW6 (fun (i : Nat) (k : Nat) (f2 : Nat → Int32) (v2 : Nat → Int32) (fo2 : Nat → Int32) (z : Nat → Int32) (H : Heap) (locs : List Loc) (ls : Array Slot) => (i ≤ 10) ∧ ((i ≤ q → k = 0) ∧ (q < i → k = 1)) ∧ (B01 f2) ∧ (q < i → fo2 0 = nI (100 * q)) ∧ va_P D vwCl [(h0, eO 4 [.ref lw, .ref w1, .ref w2, .int e0, .int e1, .int e2, .ref ho, .ref m1, .int (nI cm), .ref m2, .ref m3, .int e3, .ref m4, .int e4, .ref m5, .ref m6, .ref m7, .int (nI k)]), (lw, eO 2 [.ref ho, .ref l1, .ref l2, .ref l3, .ref l4]), (ho, eO 0 [.int 0, .int 1, .int 0, .int 0, .int 0, .int 0, .int 0, .int 0, .int 0, .int 0, .ref g1, .ref g2, .ref g3]), (l1, eI (ty 0) 1000 f2), (l3, eI (ty 0) 8 v2), (w1, eO 7 [.int (z 0), .int (z 1)]), (m7, eI (ty 0) 1000 fo2)] H ∧ va_D A [(h0, eO 4 [.ref lw, .ref w1, .ref w2, .int e0, .int e1, .int e2, .ref ho, .ref m1, .int (nI cm), .ref m2, .ref m3, .int e3, .ref m4, .int e4, .ref m5, .ref m6, .ref m7, .int (nI k)]), (lw, eO 2 [.ref ho, .ref l1, .ref l2, .ref l3, .ref l4]), (ho, eO 0 [.int 0, .int 1, .int 0, .int 0, .int 0, .int 0, .int 0, .int 0, .int 0, .int 0, .ref g1, .ref g2, .ref g3]), (l1, eI (ty 0) 1000 f2), (l3, eI (ty 0) 8 v2), (w1, eO 7 [.int (z 0), .int (z 1)]), (m7, eI (ty 0) 1000 fo2)] ∧ va_S A s.heap H locs ∧ lv_has ls 6 [(4, .int (nI i)), (0, .ref h0), (1, .int (nI (100 * q))), (2, .int n), (3, .int 0)]) (fun (i : Nat) (k : Nat) (f2 : Nat → Int32) (v2 : Nat → Int32) (fo2 : Nat → Int32) (z : Nat → Int32) => 10 - i) ?_ 0 0 f v fo (fun j => match j with | 0 => wb | _ => wk) ⟨(by omega), (by omega), hf, (fun h => absurd h (by omega)), hP, hD, hS, lv_sub hl [0, 1, 2, 3, 4] rfl⟩
  intro i k f2 v2 fo2 z H locs ls hI ih_1
  obtain ⟨hi, hk, hf2, hfo, hP, hD, hS, hl⟩ := hI
  refine lv_iload hx hb d_X4_findBefore_8 (lv_at hl 0 rfl) ?_
  refine lv_aload_n hx hb d_X4_findBefore_10 rfl (lv_at hl 1 rfl) ?_
  refine r_get (v := .ref ho) C hP 0 rfl rfl lay_X4 6 (by decide) k_416 rfl d_X4_findBefore_11 ?_
  have ct_2 : Cut [(h0, eO 4 [.ref lw, .ref w1, .ref w2, .int e0, .int e1, .int e2, .ref ho, .ref m1, .int (nI cm), .ref m2, .ref m3, .int e3, .ref m4, .int e4, .ref m5, .ref m6, .ref m7, .int (nI k)]), (lw, eO 2 [.ref ho, .ref l1, .ref l2, .ref l3, .ref l4]), (ho, eO 0 [.int 0, .int 1, .int 0, .int 0, .int 0, .int 0, .int 0, .int 0, .int 0, .int 0, .ref g1, .ref g2, .ref g3]), (l1, eI (ty 0) 1000 f2), (l3, eI (ty 0) 8 v2), (w1, eO 7 [.int (z 0), .int (z 1)]), (m7, eI (ty 0) 1000 fo2)] [(ho, eO 0 [.int 0, .int 1, .int 0, .int 0, .int 0, .int 0, .int 0, .int 0, .int 0, .int 0, .ref g1, .ref g2, .ref g3])] [(h0, eO 4 [.ref lw, .ref w1, .ref w2, .int e0, .int e1, .int e2, .ref ho, .ref m1, .int (nI cm), .ref m2, .ref m3, .int e3, .ref m4, .int e4, .ref m5, .ref m6, .ref m7, .int (nI k)]), (lw, eO 2 [.ref ho, .ref l1, .ref l2, .ref l3, .ref l4]), (l1, eI (ty 0) 1000 f2), (l3, eI (ty 0) 8 v2), (w1, eO 7 [.int (z 0), .int (z 1)]), (m7, eI (ty 0) 1000 fo2)] [2] [0, 1, 3, 4, 5, 6] := ⟨rfl, rfl, rfl, rfl, by decide⟩
  refine cont_I C hP hD hS ct_2 (run_V (As := []) (rest := [.int (nI i)]) C hP hD hS ct_2 (c_bills l D ty ho g1 g2 g3) kV_PinchedBill_Reckoner_107 2 rfl rfl rfl rfl hl.1 rfl (nle rfl) d_X4_findBefore_14 ⟨by decide, by decide, by decide, by decide⟩) (fun r_4 w_5 H locs hw_3 hP hD hS => ?_)
  obtain ⟨rfl, rfl⟩ := hw_3
  have hP : va_P D vwCl [(h0, eO 4 [.ref lw, .ref w1, .ref w2, .int e0, .int e1, .int e2, .ref ho, .ref m1, .int (nI cm), .ref m2, .ref m3, .int e3, .ref m4, .int e4, .ref m5, .ref m6, .ref m7, .int (nI k)]), (lw, eO 2 [.ref ho, .ref l1, .ref l2, .ref l3, .ref l4]), (l1, eI (ty 0) 1000 f2), (l3, eI (ty 0) 8 v2), (w1, eO 7 [.int (z 0), .int (z 1)]), (m7, eI (ty 0) 1000 fo2), (ho, eO 0 [.int 0, .int 1, .int 0, .int 0, .int 0, .int 0, .int 0, .int 0, .int 0, .int 0, .ref g1, .ref g2, .ref g3])] H := hP
  have hD : va_D A [(h0, eO 4 [.ref lw, .ref w1, .ref w2, .int e0, .int e1, .int e2, .ref ho, .ref m1, .int (nI cm), .ref m2, .ref m3, .int e3, .ref m4, .int e4, .ref m5, .ref m6, .ref m7, .int (nI k)]), (lw, eO 2 [.ref ho, .ref l1, .ref l2, .ref l3, .ref l4]), (l1, eI (ty 0) 1000 f2), (l3, eI (ty 0) 8 v2), (w1, eO 7 [.int (z 0), .int (z 1)]), (m7, eI (ty 0) 1000 fo2), (ho, eO 0 [.int 0, .int 1, .int 0, .int 0, .int 0, .int 0, .int 0, .int 0, .int 0, .int 0, .ref g1, .ref g2, .ref g3])] := hD
  refine lv_icmp_ge (tgt := 55) hx hb d_X4_findBefore_17 (by decide) (fun hc_6 => ?_) (fun hc_6 => ?_)
  · have hc_6 := un_le 10 i rfl rfl (by omega) (by omega) hc_6
    obtain rfl : i = 10 := by omega
    obtain rfl : k = 1 := by omega
    refine lv_aload_n hx hb d_X4_findBefore_55 rfl (lv_at hl 1 rfl) ?_
    refine r_get (v := .int 1) C hP 0 rfl rfl lay_X4 17 (by decide) k_427 rfl d_X4_findBefore_56 ?_
    exact ret_I (w := [(h0, eO 4 [.ref lw, .ref w1, .ref w2, .int e0, .int e1, .int e2, .ref ho, .ref m1, .int (nI cm), .ref m2, .ref m3, .int e3, .ref m4, .int e4, .ref m5, .ref m6, .ref m7, .int 1]), (m7, eI (ty 0) 1000 fo2)]) C hP hD hS [0, 5] rfl rfl ⟨fo2, (hfo (by omega)), rfl, rfl⟩ (by decide) (by decide) d_X4_findBefore_59
  · have hc_6 := un_nle 10 i rfl rfl (by omega) (by omega) hc_6
    refine lv_aload_n hx hb d_X4_findBefore_20 rfl (lv_at hl 1 rfl) ?_
    refine r_get (v := .ref ho) C hP 0 rfl rfl lay_X4 6 (by decide) k_416 rfl d_X4_findBefore_21 ?_
    refine lv_iload hx hb d_X4_findBefore_24 (lv_at hl 0 rfl) ?_
    have ct_7 : Cut [(h0, eO 4 [.ref lw, .ref w1, .ref w2, .int e0, .int e1, .int e2, .ref ho, .ref m1, .int (nI cm), .ref m2, .ref m3, .int e3, .ref m4, .int e4, .ref m5, .ref m6, .ref m7, .int (nI k)]), (lw, eO 2 [.ref ho, .ref l1, .ref l2, .ref l3, .ref l4]), (l1, eI (ty 0) 1000 f2), (l3, eI (ty 0) 8 v2), (w1, eO 7 [.int (z 0), .int (z 1)]), (m7, eI (ty 0) 1000 fo2), (ho, eO 0 [.int 0, .int 1, .int 0, .int 0, .int 0, .int 0, .int 0, .int 0, .int 0, .int 0, .ref g1, .ref g2, .ref g3])] [(ho, eO 0 [.int 0, .int 1, .int 0, .int 0, .int 0, .int 0, .int 0, .int 0, .int 0, .int 0, .ref g1, .ref g2, .ref g3])] [(h0, eO 4 [.ref lw, .ref w1, .ref w2, .int e0, .int e1, .int e2, .ref ho, .ref m1, .int (nI cm), .ref m2, .ref m3, .int e3, .ref m4, .int e4, .ref m5, .ref m6, .ref m7, .int (nI k)]), (lw, eO 2 [.ref ho, .ref l1, .ref l2, .ref l3, .ref l4]), (l1, eI (ty 0) 1000 f2), (l3, eI (ty 0) 8 v2), (w1, eO 7 [.int (z 0), .int (z 1)]), (m7, eI (ty 0) 1000 fo2)] [6] [0, 1, 2, 3, 4, 5] := ⟨rfl, rfl, rfl, rfl, by decide⟩
    refine cont_I C hP hD hS ct_7 (run_V (As := [.int (nI i)]) (rest := []) C hP hD hS ct_7 (c_billAt l D ty ho g1 g2 g3 i (by omega)) kV_PinchedBill_Reckoner_112 6 rfl rfl rfl rfl hl.1 rfl (nle rfl) d_X4_findBefore_26 ⟨by decide, by decide, by decide, by decide⟩) (fun r_9 w_10 H locs hw_8 hP hD hS => ?_)
    obtain ⟨rfl, rfl⟩ := hw_8
    have hP : va_P D vwCl [(h0, eO 4 [.ref lw, .ref w1, .ref w2, .int e0, .int e1, .int e2, .ref ho, .ref m1, .int (nI cm), .ref m2, .ref m3, .int e3, .ref m4, .int e4, .ref m5, .ref m6, .ref m7, .int (nI k)]), (lw, eO 2 [.ref ho, .ref l1, .ref l2, .ref l3, .ref l4]), (l1, eI (ty 0) 1000 f2), (l3, eI (ty 0) 8 v2), (w1, eO 7 [.int (z 0), .int (z 1)]), (m7, eI (ty 0) 1000 fo2), (ho, eO 0 [.int 0, .int 1, .int 0, .int 0, .int 0, .int 0, .int 0, .int 0, .int 0, .int 0, .ref g1, .ref g2, .ref g3])] H := hP
    have hD : va_D A [(h0, eO 4 [.ref lw, .ref w1, .ref w2, .int e0, .int e1, .int e2, .ref ho, .ref m1, .int (nI cm), .ref m2, .ref m3, .int e3, .ref m4, .int e4, .ref m5, .ref m6, .ref m7, .int (nI k)]), (lw, eO 2 [.ref ho, .ref l1, .ref l2, .ref l3, .ref l4]), (l1, eI (ty 0) 1000 f2), (l3, eI (ty 0) 8 v2), (w1, eO 7 [.int (z 0), .int (z 1)]), (m7, eI (ty 0) 1000 fo2), (ho, eO 0 [.int 0, .int 1, .int 0, .int 0, .int 0, .int 0, .int 0, .int 0, .int 0, .int 0, .ref g1, .ref g2, .ref g3])] := hD
    refine lv_istore (lv' := [(5, .int (nI (i * 100))), (4, .int (nI i)), (0, .ref h0), (1, .int (nI (100 * q))), (2, .int n), (3, .int 0)]) hx hb d_X4_findBefore_29 hl (by decide) rfl (fun ls hl => ?_)
    refine lv_aload_n hx hb d_X4_findBefore_31 rfl (lv_at hl 2 rfl) ?_
    refine lv_iload hx hb d_X4_findBefore_32 (lv_at hl 0 rfl) ?_
    refine lv_iload_n hx hb d_X4_findBefore_34 rfl (lv_at hl 4 rfl) ?_
    refine lv_iload_n hx hb d_X4_findBefore_35 rfl (lv_at hl 5 rfl) ?_
    have ct_11 : Cut [(h0, eO 4 [.ref lw, .ref w1, .ref w2, .int e0, .int e1, .int e2, .ref ho, .ref m1, .int (nI cm), .ref m2, .ref m3, .int e3, .ref m4, .int e4, .ref m5, .ref m6, .ref m7, .int (nI k)]), (lw, eO 2 [.ref ho, .ref l1, .ref l2, .ref l3, .ref l4]), (l1, eI (ty 0) 1000 f2), (l3, eI (ty 0) 8 v2), (w1, eO 7 [.int (z 0), .int (z 1)]), (m7, eI (ty 0) 1000 fo2), (ho, eO 0 [.int 0, .int 1, .int 0, .int 0, .int 0, .int 0, .int 0, .int 0, .int 0, .int 0, .ref g1, .ref g2, .ref g3])] [(h0, eO 4 [.ref lw, .ref w1, .ref w2, .int e0, .int e1, .int e2, .ref ho, .ref m1, .int (nI cm), .ref m2, .ref m3, .int e3, .ref m4, .int e4, .ref m5, .ref m6, .ref m7, .int (nI k)]), (lw, eO 2 [.ref ho, .ref l1, .ref l2, .ref l3, .ref l4]), (ho, eO 0 [.int 0, .int 1, .int 0, .int 0, .int 0, .int 0, .int 0, .int 0, .int 0, .int 0, .ref g1, .ref g2, .ref g3]), (l1, eI (ty 0) 1000 f2), (l3, eI (ty 0) 8 v2), (w1, eO 7 [.int (z 0), .int (z 1)])] [(m7, eI (ty 0) 1000 fo2)] [0, 1, 6, 2, 3, 4] [5] := ⟨rfl, rfl, rfl, rfl, by decide⟩
    refine cont_I C hP hD hS ct_11 (run_V (As := [.int (nI (i * 100)), .int n, .int 0]) (rest := []) C hP hD hS ct_11 (c_billIn l D ty h0 ho lw l1 l2 l3 l4 w1 w2 m1 m2 m3 m4 m5 m6 m7 g1 g2 g3 e0 e1 e2 e3 e4 (nI k) cm (z 0) (z 1) f2 v2 (i * 100) n (by omega) hf2) kV_PinchedBill_Reckoner_163 0 rfl rfl rfl rfl hl.1 rfl (nle rfl) d_X4_findBefore_36 ⟨by decide, by decide, by decide, by decide⟩) (fun r_15 w_16 H locs hw_14 hP hD hS => ?_)
    obtain ⟨f9_12, v9_13, hf9_17, rfl, rfl⟩ := hw_14
    have hP : va_P D vwCl [(m7, eI (ty 0) 1000 fo2), (h0, eO 4 [.ref lw, .ref w1, .ref w2, .int e0, .int e1, .int e2, .ref ho, .ref m1, .int (nI cm), .ref m2, .ref m3, .int e3, .ref m4, .int e4, .ref m5, .ref m6, .ref m7, .int (nI k)]), (lw, eO 2 [.ref ho, .ref l1, .ref l2, .ref l3, .ref l4]), (ho, eO 0 [.int 0, .int 1, .int 0, .int 0, .int 0, .int 0, .int 0, .int 0, .int 0, .int 0, .ref g1, .ref g2, .ref g3]), (l1, eI (ty 0) 1000 f9_12), (l3, eI (ty 0) 8 v9_13), (w1, eO 7 [.int (nI (i * 100)), .int (-1)])] H := hP
    have hD : va_D A [(m7, eI (ty 0) 1000 fo2), (h0, eO 4 [.ref lw, .ref w1, .ref w2, .int e0, .int e1, .int e2, .ref ho, .ref m1, .int (nI cm), .ref m2, .ref m3, .int e3, .ref m4, .int e4, .ref m5, .ref m6, .ref m7, .int (nI k)]), (lw, eO 2 [.ref ho, .ref l1, .ref l2, .ref l3, .ref l4]), (ho, eO 0 [.int 0, .int 1, .int 0, .int 0, .int 0, .int 0, .int 0, .int 0, .int 0, .int 0, .ref g1, .ref g2, .ref g3]), (l1, eI (ty 0) 1000 f9_12), (l3, eI (ty 0) 8 v9_13), (w1, eO 7 [.int (nI (i * 100)), .int (-1)])] := hD
    refine lv_iload_n hx hb d_X4_findBefore_39 rfl (lv_at hl 3 rfl) ?_
    refine lv_icmp_ne (tgt := 49) hx hb d_X4_findBefore_40 (by decide) (fun hc_18 => ?_) (fun hc_18 => ?_)
    · have hc_18 := un_ne (i * 100) (100 * q) rfl rfl (by omega) (by omega) hc_18
      refine lv_iinc (v := (nI (i + 1))) (lv' := [(4, .int (nI (i + 1))), (5, .int (nI (i * 100))), (0, .ref h0), (1, .int (nI (100 * q))), (2, .int n), (3, .int 0)]) (k := 1) hx hb d_X4_findBefore_49 hl rfl (a_inc i 1 (i + 1) rfl rfl) (by decide) rfl (fun ls hl => ?_)
      refine lv_goto (tgt := 8) hx hb d_X4_findBefore_52 (by decide) ?_
      exact ih_1 (i + 1) k f9_12 v9_13 fo2 (fun j => match j with | 0 => (nI (i * 100)) | _ => (-1)) _ _ _ (by omega) ⟨(by omega), (by omega), hf9_17, (fun h => hfo (by omega)), sub_P hP (is := [1, 2, 3, 4, 5, 6, 0]) rfl, hD.sub [1, 2, 3, 4, 5, 6, 0] (by decide) rfl, hS, lv_sub hl [0, 2, 3, 4, 5] rfl⟩
    · have hc_18 := un_eq (i * 100) (100 * q) rfl rfl (by omega) (by omega) hc_18
      refine lv_aload_n hx hb d_X4_findBefore_43 rfl (lv_at hl 2 rfl) ?_
      refine lv_iload hx hb d_X4_findBefore_44 (lv_at hl 0 rfl) ?_
      have ct_19 : Cut [(m7, eI (ty 0) 1000 fo2), (h0, eO 4 [.ref lw, .ref w1, .ref w2, .int e0, .int e1, .int e2, .ref ho, .ref m1, .int (nI cm), .ref m2, .ref m3, .int e3, .ref m4, .int e4, .ref m5, .ref m6, .ref m7, .int (nI k)]), (lw, eO 2 [.ref ho, .ref l1, .ref l2, .ref l3, .ref l4]), (ho, eO 0 [.int 0, .int 1, .int 0, .int 0, .int 0, .int 0, .int 0, .int 0, .int 0, .int 0, .ref g1, .ref g2, .ref g3]), (l1, eI (ty 0) 1000 f9_12), (l3, eI (ty 0) 8 v9_13), (w1, eO 7 [.int (nI (i * 100)), .int (-1)])] [(h0, eO 4 [.ref lw, .ref w1, .ref w2, .int e0, .int e1, .int e2, .ref ho, .ref m1, .int (nI cm), .ref m2, .ref m3, .int e3, .ref m4, .int e4, .ref m5, .ref m6, .ref m7, .int (nI k)]), (m7, eI (ty 0) 1000 fo2)] [(lw, eO 2 [.ref ho, .ref l1, .ref l2, .ref l3, .ref l4]), (ho, eO 0 [.int 0, .int 1, .int 0, .int 0, .int 0, .int 0, .int 0, .int 0, .int 0, .int 0, .ref g1, .ref g2, .ref g3]), (l1, eI (ty 0) 1000 f9_12), (l3, eI (ty 0) 8 v9_13), (w1, eO 7 [.int (nI (i * 100)), .int (-1)])] [1, 0] [2, 3, 4, 5, 6] := ⟨rfl, rfl, rfl, rfl, by decide⟩
      refine cont_V C hP hD hS ct_19 (run_V (As := [.int (nI (i * 100))]) (rest := []) C hP hD hS ct_19 (c_addFound l D ty h0 ho lw w1 w2 m1 m2 m3 m4 m5 m6 m7 e0 e1 e2 e3 e4 cm k fo2 (nI (i * 100)) (by omega)) kV_PinchedBill_Reckoner_160 1 rfl rfl rfl rfl hl.1 rfl (nle rfl) d_X4_findBefore_46 ⟨by decide, by decide, by decide, by decide⟩) (fun w_22 H locs hw_20 hP hD hS => ?_)
      subst hw_20
      have hP : va_P D vwCl [(lw, eO 2 [.ref ho, .ref l1, .ref l2, .ref l3, .ref l4]), (ho, eO 0 [.int 0, .int 1, .int 0, .int 0, .int 0, .int 0, .int 0, .int 0, .int 0, .int 0, .ref g1, .ref g2, .ref g3]), (l1, eI (ty 0) 1000 f9_12), (l3, eI (ty 0) 8 v9_13), (w1, eO 7 [.int (nI (i * 100)), .int (-1)]), (h0, eO 4 [.ref lw, .ref w1, .ref w2, .int e0, .int e1, .int e2, .ref ho, .ref m1, .int (nI cm), .ref m2, .ref m3, .int e3, .ref m4, .int e4, .ref m5, .ref m6, .ref m7, .int (nI (k + 1))]), (m7, eI (ty 0) 1000 (upd fo2 k (nI (i * 100))))] H := hP
      have hD : va_D A [(lw, eO 2 [.ref ho, .ref l1, .ref l2, .ref l3, .ref l4]), (ho, eO 0 [.int 0, .int 1, .int 0, .int 0, .int 0, .int 0, .int 0, .int 0, .int 0, .int 0, .ref g1, .ref g2, .ref g3]), (l1, eI (ty 0) 1000 f9_12), (l3, eI (ty 0) 8 v9_13), (w1, eO 7 [.int (nI (i * 100)), .int (-1)]), (h0, eO 4 [.ref lw, .ref w1, .ref w2, .int e0, .int e1, .int e2, .ref ho, .ref m1, .int (nI cm), .ref m2, .ref m3, .int e3, .ref m4, .int e4, .ref m5, .ref m6, .ref m7, .int (nI (k + 1))]), (m7, eI (ty 0) 1000 (upd fo2 k (nI (i * 100))))] := hD
      refine lv_iinc (v := (nI (i + 1))) (lv' := [(4, .int (nI (i + 1))), (5, .int (nI (i * 100))), (0, .ref h0), (1, .int (nI (100 * q))), (2, .int n), (3, .int 0)]) (k := 1) hx hb d_X4_findBefore_49 hl rfl (a_inc i 1 (i + 1) rfl rfl) (by decide) rfl (fun ls hl => ?_)
      refine lv_goto (tgt := 8) hx hb d_X4_findBefore_52 (by decide) ?_
      exact ih_1 (i + 1) (k + 1) f9_12 v9_13 (upd fo2 k (nI (i * 100))) (fun j => match j with | 0 => (nI (i * 100)) | _ => (-1)) _ _ _ (by omega) ⟨(by omega), (by omega), hf9_17, (fun _ => by obtain rfl : k = 0 := (by omega); rw [pk_us]; congr 1), sub_P hP (is := [5, 0, 1, 2, 3, 4, 6]) rfl, hD.sub [5, 0, 1, 2, 3, 4, 6] (by decide) rfl, hS, lv_sub hl [0, 2, 3, 4, 5] rfl⟩
set_option maxHeartbeats 4000000 in
set_option maxRecDepth 100000 in
theorem c_startBoth (l : Launch) (D : va_G) (ty : Nat → ClassId) (h0 : Nat) (ho : Nat) (lw : Nat) (w1 : Nat) (w2 : Nat) (m1 : Nat) (m2 : Nat) (m3 : Nat) (m4 : Nat) (m5 : Nat) (m6 : Nat) (m7 : Nat) (e0 : Int32) (e1 : Int32) (e2 : Int32) (e3 : Int32) (e4 : Int32) (e5 : Int32) (cm : Nat) (wb : Int32) (wk : Int32) (xb : Int32) (xk : Int32) (ba : Nat) (bo : Nat) : CC l D ty ⟨"PinchedBill$Reckoner", "startBoth", "(II)V"⟩ prog_6_method_22_code 3 none 1 21 0 0 [.ref h0, .int (nI ba), .int (nI bo)] [(h0, eO 4 [.ref lw, .ref w1, .ref w2, .int e0, .int e1, .int e2, .ref ho, .ref m1, .int (nI cm), .ref m2, .ref m3, .int e3, .ref m4, .int e4, .ref m5, .ref m6, .ref m7, .int e5]), (w1, eO 7 [.int wb, .int wk]), (w2, eO 7 [.int xb, .int xk])] (QV D ty (fun (w : va_W) => w = [(h0, eO 4 [.ref lw, .ref w1, .ref w2, .int e0, .int e1, .int e2, .ref ho, .ref m1, .int (nI cm), .ref m2, .ref m3, .int e3, .ref m4, .int e4, .ref m5, .ref m6, .ref m7, .int e5]), (w1, eO 7 [.int (nI ba), .int (-1)]), (w2, eO 7 [.int (nI bo), .int (-1)])])) := by
  refine CC_of (by decide) ?_
  intro p e s m below meth c A C hP hD hS
  obtain ⟨⟨hx, hb, hml, hown, hts⟩, hr, hlocks, hnm, hK, hE, hA, hZ⟩ := id C
  refine startW [.ref h0, .int (nI ba), .int (nI bo)] 3 (nle rfl) (lv := [(0, .ref h0), (1, .int (nI ba)), (2, .int (nI bo))]) rfl (fun ls hl => ?_)
  refine lv_aload_n hx hb d_X4_startBoth_0 rfl (lv_at hl 0 rfl) ?_
  refine r_get (v := .ref w1) C hP 0 rfl rfl lay_X4 1 (by decide) k_406 rfl d_X4_startBoth_1 ?_
  refine lv_iload_n hx hb d_X4_startBoth_4 rfl (lv_at hl 1 rfl) ?_
  have ct_1 : Cut [(h0, eO 4 [.ref lw, .ref w1, .ref w2, .int e0, .int e1, .int e2, .ref ho, .ref m1, .int (nI cm), .ref m2, .ref m3, .int e3, .ref m4, .int e4, .ref m5, .ref m6, .ref m7, .int e5]), (w1, eO 7 [.int wb, .int wk]), (w2, eO 7 [.int xb, .int xk])] [(w1, eO 7 [.int wb, .int wk])] [(h0, eO 4 [.ref lw, .ref w1, .ref w2, .int e0, .int e1, .int e2, .ref ho, .ref m1, .int (nI cm), .ref m2, .ref m3, .int e3, .ref m4, .int e4, .ref m5, .ref m6, .ref m7, .int e5]), (w2, eO 7 [.int xb, .int xk])] [1] [0, 2] := ⟨rfl, rfl, rfl, rfl, by decide⟩
  refine cont_V C hP hD hS ct_1 (run_V (As := [.int (nI ba)]) (rest := []) C hP hD hS ct_1 (c_start l D ty w1 wb wk (nI ba)) kV_PinchedBill_Reckoner_69 1 rfl rfl rfl rfl hl.1 rfl (nle rfl) d_X4_startBoth_5 ⟨by decide, by decide, by decide, by decide⟩) (fun w_4 H locs hw_2 hP hD hS => ?_)
  subst hw_2
  have hP : va_P D vwCl [(h0, eO 4 [.ref lw, .ref w1, .ref w2, .int e0, .int e1, .int e2, .ref ho, .ref m1, .int (nI cm), .ref m2, .ref m3, .int e3, .ref m4, .int e4, .ref m5, .ref m6, .ref m7, .int e5]), (w2, eO 7 [.int xb, .int xk]), (w1, eO 7 [.int (nI ba), .int (-1)])] H := hP
  have hD : va_D A [(h0, eO 4 [.ref lw, .ref w1, .ref w2, .int e0, .int e1, .int e2, .ref ho, .ref m1, .int (nI cm), .ref m2, .ref m3, .int e3, .ref m4, .int e4, .ref m5, .ref m6, .ref m7, .int e5]), (w2, eO 7 [.int xb, .int xk]), (w1, eO 7 [.int (nI ba), .int (-1)])] := hD
  refine lv_aload_n hx hb d_X4_startBoth_8 rfl (lv_at hl 0 rfl) ?_
  refine r_get (v := .ref w2) C hP 0 rfl rfl lay_X4 2 (by decide) k_408 rfl d_X4_startBoth_9 ?_
  refine lv_iload_n hx hb d_X4_startBoth_12 rfl (lv_at hl 2 rfl) ?_
  have ct_5 : Cut [(h0, eO 4 [.ref lw, .ref w1, .ref w2, .int e0, .int e1, .int e2, .ref ho, .ref m1, .int (nI cm), .ref m2, .ref m3, .int e3, .ref m4, .int e4, .ref m5, .ref m6, .ref m7, .int e5]), (w2, eO 7 [.int xb, .int xk]), (w1, eO 7 [.int (nI ba), .int (-1)])] [(w2, eO 7 [.int xb, .int xk])] [(h0, eO 4 [.ref lw, .ref w1, .ref w2, .int e0, .int e1, .int e2, .ref ho, .ref m1, .int (nI cm), .ref m2, .ref m3, .int e3, .ref m4, .int e4, .ref m5, .ref m6, .ref m7, .int e5]), (w1, eO 7 [.int (nI ba), .int (-1)])] [1] [0, 2] := ⟨rfl, rfl, rfl, rfl, by decide⟩
  refine cont_V C hP hD hS ct_5 (run_V (As := [.int (nI bo)]) (rest := []) C hP hD hS ct_5 (c_start l D ty w2 xb xk (nI bo)) kV_PinchedBill_Reckoner_69 1 rfl rfl rfl rfl hl.1 rfl (nle rfl) d_X4_startBoth_13 ⟨by decide, by decide, by decide, by decide⟩) (fun w_8 H locs hw_6 hP hD hS => ?_)
  subst hw_6
  have hP : va_P D vwCl [(h0, eO 4 [.ref lw, .ref w1, .ref w2, .int e0, .int e1, .int e2, .ref ho, .ref m1, .int (nI cm), .ref m2, .ref m3, .int e3, .ref m4, .int e4, .ref m5, .ref m6, .ref m7, .int e5]), (w1, eO 7 [.int (nI ba), .int (-1)]), (w2, eO 7 [.int (nI bo), .int (-1)])] H := hP
  have hD : va_D A [(h0, eO 4 [.ref lw, .ref w1, .ref w2, .int e0, .int e1, .int e2, .ref ho, .ref m1, .int (nI cm), .ref m2, .ref m3, .int e3, .ref m4, .int e4, .ref m5, .ref m6, .ref m7, .int e5]), (w1, eO 7 [.int (nI ba), .int (-1)]), (w2, eO 7 [.int (nI bo), .int (-1)])] := hD
  exact ret_V (w := [(h0, eO 4 [.ref lw, .ref w1, .ref w2, .int e0, .int e1, .int e2, .ref ho, .ref m1, .int (nI cm), .ref m2, .ref m3, .int e3, .ref m4, .int e4, .ref m5, .ref m6, .ref m7, .int e5]), (w1, eO 7 [.int (nI ba), .int (-1)]), (w2, eO 7 [.int (nI bo), .int (-1)])]) C hP hD hS [0, 1, 2] rfl rfl rfl (by decide) (by decide) d_X4_startBoth_16
set_option maxHeartbeats 4000000 in
set_option maxRecDepth 100000 in
theorem c_areBoth (l : Launch) (D : va_G) (ty : Nat → ClassId) (h0 : Nat) (ho : Nat) (lw : Nat) (l1 : Nat) (l2 : Nat) (l3 : Nat) (l4 : Nat) (w1 : Nat) (w2 : Nat) (m1 : Nat) (m2 : Nat) (m3 : Nat) (m4 : Nat) (m5 : Nat) (m6 : Nat) (m7 : Nat) (g1 : Nat) (g2 : Nat) (g3 : Nat) (e0 : Int32) (e1 : Int32) (e2 : Int32) (e3 : Int32) (e4 : Int32) (e5 : Int32) (cm : Nat) (f : Nat → Int32) (v : Nat → Int32) (ba : Nat) (bo : Nat) (hba : ba < 1000) (hbo : bo < 1000) (hf : B01 f) : CC l D ty ⟨"PinchedBill$Reckoner", "areBothLaws", "(I)Z"⟩ prog_6_method_23_code 2 (some .boolean) 4 89 0 0 [.ref h0, .int 0] [(h0, eO 4 [.ref lw, .ref w1, .ref w2, .int e0, .int e1, .int e2, .ref ho, .ref m1, .int (nI cm), .ref m2, .ref m3, .int e3, .ref m4, .int e4, .ref m5, .ref m6, .ref m7, .int e5]), (lw, eO 2 [.ref ho, .ref l1, .ref l2, .ref l3, .ref l4]), (ho, eO 0 [.int 0, .int 1, .int 0, .int 0, .int 0, .int 0, .int 0, .int 0, .int 0, .int 0, .ref g1, .ref g2, .ref g3]), (l1, eI (ty 0) 1000 f), (l3, eI (ty 0) 8 v), (w1, eO 7 [.int (nI ba), .int (-1)]), (w2, eO 7 [.int (nI bo), .int (-1)])] (QI D ty (fun (r : Int32) (w : va_W) => 1 = r ∧ w = [(h0, eO 4 [.ref lw, .ref w1, .ref w2, .int e0, .int e1, .int e2, .ref ho, .ref m1, .int (nI cm), .ref m2, .ref m3, .int e3, .ref m4, .int e4, .ref m5, .ref m6, .ref m7, .int e5]), (w1, eO 7 [.int (nI ba), .int (-1)]), (w2, eO 7 [.int (nI bo), .int (-1)])])) := by
  refine CC_of (by decide) ?_
  intro p e s m below meth c A C hP hD hS
  obtain ⟨⟨hx, hb, hml, hown, hts⟩, hr, hlocks, hnm, hK, hE, hA, hZ⟩ := id C
  refine startW [.ref h0, .int 0] 2 (nle rfl) (lv := [(0, .ref h0), (1, .int 0)]) rfl (fun ls hl => ?_)
  refine lv_aload_n hx hb d_X4_areBothLaws_0 rfl (lv_at hl 0 rfl) ?_
  refine r_get (v := .ref lw) C hP 0 rfl rfl lay_X4 0 (by decide) k_404 rfl d_X4_areBothLaws_1 ?_
  refine lv_aload_n hx hb d_X4_areBothLaws_4 rfl (lv_at hl 0 rfl) ?_
  refine r_get (v := .ref w1) C hP 0 rfl rfl lay_X4 1 (by decide) k_406 rfl d_X4_areBothLaws_5 ?_
  refine r_get (v := .int (nI ba)) C hP 5 rfl rfl lay_X7 0 (by decide) k_281 rfl d_X4_areBothLaws_8 ?_
  refine lv_iload_n hx hb d_X4_areBothLaws_11 rfl (lv_at hl 1 rfl) ?_
  have ct_1 : Cut [(h0, eO 4 [.ref lw, .ref w1, .ref w2, .int e0, .int e1, .int e2, .ref ho, .ref m1, .int (nI cm), .ref m2, .ref m3, .int e3, .ref m4, .int e4, .ref m5, .ref m6, .ref m7, .int e5]), (lw, eO 2 [.ref ho, .ref l1, .ref l2, .ref l3, .ref l4]), (ho, eO 0 [.int 0, .int 1, .int 0, .int 0, .int 0, .int 0, .int 0, .int 0, .int 0, .int 0, .ref g1, .ref g2, .ref g3]), (l1, eI (ty 0) 1000 f), (l3, eI (ty 0) 8 v), (w1, eO 7 [.int (nI ba), .int (-1)]), (w2, eO 7 [.int (nI bo), .int (-1)])] [(lw, eO 2 [.ref ho, .ref l1, .ref l2, .ref l3, .ref l4]), (ho, eO 0 [.int 0, .int 1, .int 0, .int 0, .int 0, .int 0, .int 0, .int 0, .int 0, .int 0, .ref g1, .ref g2, .ref g3]), (l1, eI (ty 0) 1000 f), (l3, eI (ty 0) 8 v)] [(h0, eO 4 [.ref lw, .ref w1, .ref w2, .int e0, .int e1, .int e2, .ref ho, .ref m1, .int (nI cm), .ref m2, .ref m3, .int e3, .ref m4, .int e4, .ref m5, .ref m6, .ref m7, .int e5]), (w1, eO 7 [.int (nI ba), .int (-1)]), (w2, eO 7 [.int (nI bo), .int (-1)])] [1, 2, 3, 4] [0, 5, 6] := ⟨rfl, rfl, rfl, rfl, by decide⟩
  refine cont_I C hP hD hS ct_1 (run_V (As := [.int (nI ba), .int 0]) (rest := []) C hP hD hS ct_1 (c_isLaw l D ty lw ho l1 l2 l3 l4 g1 g2 g3 f v ba hba hf) kV_PinchedBill_Reckoner_156 1 rfl rfl rfl rfl hl.1 rfl (nle rfl) d_X4_areBothLaws_12 ⟨by decide, by decide, by decide, by decide⟩) (fun r_5 w_6 H locs hw_4 hP hD hS => ?_)
  obtain ⟨f9_2, v9_3, hf9_7, rfl, rfl⟩ := hw_4
  have hP : va_P D vwCl [(h0, eO 4 [.ref lw, .ref w1, .ref w2, .int e0, .int e1, .int e2, .ref ho, .ref m1, .int (nI cm), .ref m2, .ref m3, .int e3, .ref m4, .int e4, .ref m5, .ref m6, .ref m7, .int e5]), (w1, eO 7 [.int (nI ba), .int (-1)]), (w2, eO 7 [.int (nI bo), .int (-1)]), (lw, eO 2 [.ref ho, .ref l1, .ref l2, .ref l3, .ref l4]), (ho, eO 0 [.int 0, .int 1, .int 0, .int 0, .int 0, .int 0, .int 0, .int 0, .int 0, .int 0, .ref g1, .ref g2, .ref g3]), (l1, eI (ty 0) 1000 f9_2), (l3, eI (ty 0) 8 v9_3)] H := hP
  have hD : va_D A [(h0, eO 4 [.ref lw, .ref w1, .ref w2, .int e0, .int e1, .int e2, .ref ho, .ref m1, .int (nI cm), .ref m2, .ref m3, .int e3, .ref m4, .int e4, .ref m5, .ref m6, .ref m7, .int e5]), (w1, eO 7 [.int (nI ba), .int (-1)]), (w2, eO 7 [.int (nI bo), .int (-1)]), (lw, eO 2 [.ref ho, .ref l1, .ref l2, .ref l3, .ref l4]), (ho, eO 0 [.int 0, .int 1, .int 0, .int 0, .int 0, .int 0, .int 0, .int 0, .int 0, .int 0, .ref g1, .ref g2, .ref g3]), (l1, eI (ty 0) 1000 f9_2), (l3, eI (ty 0) 8 v9_3)] := hD
  refine b_if_eqF C 40 d_X4_areBothLaws_15 (by decide) (by decide) ?_
  refine lv_aload_n hx hb d_X4_areBothLaws_18 rfl (lv_at hl 0 rfl) ?_
  refine r_get (v := .ref lw) C hP 0 rfl rfl lay_X4 0 (by decide) k_404 rfl d_X4_areBothLaws_19 ?_
  refine lv_aload_n hx hb d_X4_areBothLaws_22 rfl (lv_at hl 0 rfl) ?_
  refine r_get (v := .ref w2) C hP 0 rfl rfl lay_X4 2 (by decide) k_408 rfl d_X4_areBothLaws_23 ?_
  refine r_get (v := .int (nI bo)) C hP 2 rfl rfl lay_X7 0 (by decide) k_281 rfl d_X4_areBothLaws_26 ?_
  refine lv_iload_n hx hb d_X4_areBothLaws_29 rfl (lv_at hl 1 rfl) ?_
  have ct_8 : Cut [(h0, eO 4 [.ref lw, .ref w1, .ref w2, .int e0, .int e1, .int e2, .ref ho, .ref m1, .int (nI cm), .ref m2, .ref m3, .int e3, .ref m4, .int e4, .ref m5, .ref m6, .ref m7, .int e5]), (w1, eO 7 [.int (nI ba), .int (-1)]), (w2, eO 7 [.int (nI bo), .int (-1)]), (lw, eO 2 [.ref ho, .ref l1, .ref l2, .ref l3, .ref l4]), (ho, eO 0 [.int 0, .int 1, .int 0, .int 0, .int 0, .int 0, .int 0, .int 0, .int 0, .int 0, .ref g1, .ref g2, .ref g3]), (l1, eI (ty 0) 1000 f9_2), (l3, eI (ty 0) 8 v9_3)] [(lw, eO 2 [.ref ho, .ref l1, .ref l2, .ref l3, .ref l4]), (ho, eO 0 [.int 0, .int 1, .int 0, .int 0, .int 0, .int 0, .int 0, .int 0, .int 0, .int 0, .ref g1, .ref g2, .ref g3]), (l1, eI (ty 0) 1000 f9_2), (l3, eI (ty 0) 8 v9_3)] [(h0, eO 4 [.ref lw, .ref w1, .ref w2, .int e0, .int e1, .int e2, .ref ho, .ref m1, .int (nI cm), .ref m2, .ref m3, .int e3, .ref m4, .int e4, .ref m5, .ref m6, .ref m7, .int e5]), (w1, eO 7 [.int (nI ba), .int (-1)]), (w2, eO 7 [.int (nI bo), .int (-1)])] [3, 4, 5, 6] [0, 1, 2] := ⟨rfl, rfl, rfl, rfl, by decide⟩
  refine cont_I C hP hD hS ct_8 (run_V (As := [.int (nI bo), .int 0]) (rest := []) C hP hD hS ct_8 (c_isLaw l D ty lw ho l1 l2 l3 l4 g1 g2 g3 f9_2 v9_3 bo hbo hf9_7) kV_PinchedBill_Reckoner_156 3 rfl rfl rfl rfl hl.1 rfl (nle rfl) d_X4_areBothLaws_30 ⟨by decide, by decide, by decide, by decide⟩) (fun r_12 w_13 H locs hw_11 hP hD hS => ?_)
  obtain ⟨f9_9, v9_10, hf9_14, rfl, rfl⟩ := hw_11
  have hP : va_P D vwCl [(h0, eO 4 [.ref lw, .ref w1, .ref w2, .int e0, .int e1, .int e2, .ref ho, .ref m1, .int (nI cm), .ref m2, .ref m3, .int e3, .ref m4, .int e4, .ref m5, .ref m6, .ref m7, .int e5]), (w1, eO 7 [.int (nI ba), .int (-1)]), (w2, eO 7 [.int (nI bo), .int (-1)]), (lw, eO 2 [.ref ho, .ref l1, .ref l2, .ref l3, .ref l4]), (ho, eO 0 [.int 0, .int 1, .int 0, .int 0, .int 0, .int 0, .int 0, .int 0, .int 0, .int 0, .ref g1, .ref g2, .ref g3]), (l1, eI (ty 0) 1000 f9_9), (l3, eI (ty 0) 8 v9_10)] H := hP
  have hD : va_D A [(h0, eO 4 [.ref lw, .ref w1, .ref w2, .int e0, .int e1, .int e2, .ref ho, .ref m1, .int (nI cm), .ref m2, .ref m3, .int e3, .ref m4, .int e4, .ref m5, .ref m6, .ref m7, .int e5]), (w1, eO 7 [.int (nI ba), .int (-1)]), (w2, eO 7 [.int (nI bo), .int (-1)]), (lw, eO 2 [.ref ho, .ref l1, .ref l2, .ref l3, .ref l4]), (ho, eO 0 [.int 0, .int 1, .int 0, .int 0, .int 0, .int 0, .int 0, .int 0, .int 0, .int 0, .ref g1, .ref g2, .ref g3]), (l1, eI (ty 0) 1000 f9_9), (l3, eI (ty 0) 8 v9_10)] := hD
  refine b_if_eqF C 40 d_X4_areBothLaws_33 (by decide) (by decide) ?_
  refine lv_iconst (v := 1) hx hb d_X4_areBothLaws_36 (by decide) ?_
  refine lv_goto (tgt := 41) hx hb d_X4_areBothLaws_37 (by decide) ?_
  exact ret_Z (w := [(h0, eO 4 [.ref lw, .ref w1, .ref w2, .int e0, .int e1, .int e2, .ref ho, .ref m1, .int (nI cm), .ref m2, .ref m3, .int e3, .ref m4, .int e4, .ref m5, .ref m6, .ref m7, .int e5]), (w1, eO 7 [.int (nI ba), .int (-1)]), (w2, eO 7 [.int (nI bo), .int (-1)])]) C rfl hP hD hS [0, 1, 2] rfl rfl ⟨rfl, rfl⟩ (by decide) (by decide) d_X4_areBothLaws_41

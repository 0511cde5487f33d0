theorem d_X9_within_0 : decode prog_11_method_4_code 0 = .ok (.lload_n 0, 1) := by decide +kernel
theorem d_X9_within_1 : decode prog_11_method_4_code 1 = .ok (.lload_n 2, 1) := by decide +kernel
theorem d_X9_within_2 : decode prog_11_method_4_code 2 = .ok (.lcmp, 1) := by decide +kernel
theorem d_X9_within_3 : decode prog_11_method_4_code 3 = .ok (.ifCond .lt 14, 3) := by decide +kernel
theorem d_X9_within_17 : decode prog_11_method_4_code 17 = .ok (.iconst 0, 1) := by decide +kernel
theorem d_X9_within_18 : decode prog_11_method_4_code 18 = .ok (.ireturn, 1) := by decide +kernel
theorem d_X9_within_6 : decode prog_11_method_4_code 6 = .ok (.lload_n 0, 1) := by decide +kernel
theorem d_X9_within_7 : decode prog_11_method_4_code 7 = .ok (.lload 4, 2) := by decide +kernel
theorem d_X9_within_9 : decode prog_11_method_4_code 9 = .ok (.lcmp, 1) := by decide +kernel
theorem d_X9_within_10 : decode prog_11_method_4_code 10 = .ok (.ifCond .gt 7, 3) := by decide +kernel
theorem d_X9_within_13 : decode prog_11_method_4_code 13 = .ok (.iconst 1, 1) := by decide +kernel
theorem d_X9_within_14 : decode prog_11_method_4_code 14 = .ok (.goto 4, 3) := by decide +kernel
theorem d_X9_size_0 : decode prog_11_method_6_code 0 = .ok (.iconst 0, 1) := by decide +kernel
theorem d_X9_size_1 : decode prog_11_method_6_code 1 = .ok (.istore_n 1, 1) := by decide +kernel
theorem d_X9_size_2 : decode prog_11_method_6_code 2 = .ok (.iload_n 0, 1) := by decide +kernel
theorem d_X9_size_3 : decode prog_11_method_6_code 3 = .ok (.istore_n 2, 1) := by decide +kernel
theorem d_X9_size_4 : decode prog_11_method_6_code 4 = .ok (.iload_n 2, 1) := by decide +kernel
theorem d_X9_size_5 : decode prog_11_method_6_code 5 = .ok (.ifCond .eq 15, 3) := by decide +kernel
theorem d_X9_size_20 : decode prog_11_method_6_code 20 = .ok (.iload_n 1, 1) := by decide +kernel
theorem d_X9_size_21 : decode prog_11_method_6_code 21 = .ok (.ireturn, 1) := by decide +kernel
theorem d_X9_weight_0 : decode prog_11_method_30_code 0 = .ok (.iload_n 0, 1) := by decide +kernel
theorem d_X9_weight_1 : decode prog_11_method_30_code 1 = .ok (.ifCond .ne 8, 3) := by decide +kernel
theorem d_X9_weight_4 : decode prog_11_method_30_code 4 = .ok (.bipush 100, 2) := by decide +kernel
theorem d_X9_weight_6 : decode prog_11_method_30_code 6 = .ok (.goto 14, 3) := by decide +kernel
theorem d_X9_weight_20 : decode prog_11_method_30_code 20 = .ok (.ireturn, 1) := by decide +kernel
theorem d_X9_weight_9 : decode prog_11_method_30_code 9 = .ok (.iload_n 0, 1) := by decide +kernel
theorem d_X9_weight_10 : decode prog_11_method_30_code 10 = .ok (.iconst 1, 1) := by decide +kernel
theorem d_X9_weight_11 : decode prog_11_method_30_code 11 = .ok (.if_icmp .ne 8, 3) := by decide +kernel
theorem d_X9_weight_14 : decode prog_11_method_30_code 14 = .ok (.bipush 10, 2) := by decide +kernel
theorem d_X9_weight_16 : decode prog_11_method_30_code 16 = .ok (.goto 4, 3) := by decide +kernel
theorem d_X9_weight_19 : decode prog_11_method_30_code 19 = .ok (.iconst 1, 1) := by decide +kernel
theorem d_X9_people_0 : decode prog_11_method_37_code 0 = .ok (.aload_n 0, 1) := by decide +kernel
theorem k_1545 : Cond.fieldLink "PinchedBillModel" 9 "PinchedBillModel" "known" "[I" ∈ gd_tbl := gd_in 1545 (by decide +kernel) (by decide +kernel)
theorem d_X9_people_1 : decode prog_11_method_37_code 1 = .ok (.getfield 9, 3) := by decide +kernel
theorem d_X9_people_4 : decode prog_11_method_37_code 4 = .ok (.iconst 2, 1) := by decide +kernel
theorem d_X9_people_5 : decode prog_11_method_37_code 5 = .ok (.iaload, 1) := by decide +kernel
theorem d_X9_people_6 : decode prog_11_method_37_code 6 = .ok (.ireturn, 1) := by decide +kernel
theorem d_X9_isPerson_0 : decode prog_11_method_38_code 0 = .ok (.lload_n 1, 1) := by decide +kernel
theorem d_X9_isPerson_1 : decode prog_11_method_38_code 1 = .ok (.lconst 0, 1) := by decide +kernel
theorem d_X9_isPerson_2 : decode prog_11_method_38_code 2 = .ok (.aload_n 0, 1) := by decide +kernel
theorem k_1500 : Cond.code ⟨"PinchedBillModel", "people", "()I"⟩ prog_11_method_37_code 1 (some .int) ∈ gd_tbl := gd_in 1500 (by decide +kernel) (by decide +kernel)
theorem k_1497 : Cond.methodLink "PinchedBillModel" 259 ⟨"PinchedBillModel", "people", "()I"⟩ ∈ gd_tbl := gd_in 1497 (by decide +kernel) (by decide +kernel)
theorem k_1499 : Cond.instanceMethod ⟨"PinchedBillModel", "people", "()I"⟩ ∈ gd_tbl := gd_in 1499 (by decide +kernel) (by decide +kernel)
theorem k_44 : Cond.selects "PinchedBillModel" ⟨"PinchedBillModel", "people", "()I"⟩ ⟨"PinchedBillModel", "people", "()I"⟩ ∈ gd_tbl := gd_in 44 (by decide +kernel) (by decide +kernel)
theorem k_122 : Cond.initialized "PinchedBillModel" ∈ gd_tbl := gd_in 122 (by decide +kernel) (by decide +kernel)
theorem kV_PinchedBillModel_259 : kV "PinchedBillModel" 259 ⟨"PinchedBillModel", "people", "()I"⟩ prog_11_method_37_code 1 (some .int) 0 := ⟨k_1497, k_1499, k_44, k_122, k_1500, by decide, by decide, by decide +kernel⟩
theorem d_X9_isPerson_3 : decode prog_11_method_38_code 3 = .ok (.invokevirtual 259, 3) := by decide +kernel
theorem d_X9_isPerson_6 : decode prog_11_method_38_code 6 = .ok (.iconst 1, 1) := by decide +kernel
theorem d_X9_isPerson_7 : decode prog_11_method_38_code 7 = .ok (.isub, 1) := by decide +kernel
theorem d_X9_isPerson_8 : decode prog_11_method_38_code 8 = .ok (.i2l, 1) := by decide +kernel
theorem k_1681 : Cond.code ⟨"PinchedBillModel", "within", "(JJJ)Z"⟩ prog_11_method_4_code 6 (some .boolean) ∈ gd_tbl := gd_in 1681 (by decide +kernel) (by decide +kernel)
theorem k_1679 : Cond.methodLink "PinchedBillModel" 140 ⟨"PinchedBillModel", "within", "(JJJ)Z"⟩ ∈ gd_tbl := gd_in 1679 (by decide +kernel) (by decide +kernel)
theorem k_1680 : Cond.static ⟨"PinchedBillModel", "within", "(JJJ)Z"⟩ ∈ gd_tbl := gd_in 1680 (by decide +kernel) (by decide +kernel)
theorem kS_PinchedBillModel_140 : kS "PinchedBillModel" 140 ⟨"PinchedBillModel", "within", "(JJJ)Z"⟩ prog_11_method_4_code 6 (some .boolean) 3 := ⟨k_1679, k_1680, k_122, k_1681, by decide, by decide, by decide +kernel⟩
theorem d_X9_isPerson_9 : decode prog_11_method_38_code 9 = .ok (.invokestatic 140, 3) := by decide +kernel
theorem d_X9_isPerson_12 : decode prog_11_method_38_code 12 = .ok (.ireturn, 1) := by decide +kernel
theorem d_X9_finest_0 : decode prog_11_method_39_code 0 = .ok (.aload_n 0, 1) := by decide +kernel
theorem d_X9_finest_1 : decode prog_11_method_39_code 1 = .ok (.getfield 9, 3) := by decide +kernel
theorem d_X9_finest_4 : decode prog_11_method_39_code 4 = .ok (.iconst 1, 1) := by decide +kernel
theorem d_X9_finest_5 : decode prog_11_method_39_code 5 = .ok (.iaload, 1) := by decide +kernel
theorem d_X9_finest_6 : decode prog_11_method_39_code 6 = .ok (.iconst 1, 1) := by decide +kernel
theorem d_X9_finest_7 : decode prog_11_method_39_code 7 = .ok (.isub, 1) := by decide +kernel
theorem k_1514 : Cond.code ⟨"PinchedBillModel", "weight", "(I)I"⟩ prog_11_method_30_code 1 (some .int) ∈ gd_tbl := gd_in 1514 (by decide +kernel) (by decide +kernel)
theorem k_1512 : Cond.methodLink "PinchedBillModel" 218 ⟨"PinchedBillModel", "weight", "(I)I"⟩ ∈ gd_tbl := gd_in 1512 (by decide +kernel) (by decide +kernel)
theorem k_1513 : Cond.static ⟨"PinchedBillModel", "weight", "(I)I"⟩ ∈ gd_tbl := gd_in 1513 (by decide +kernel) (by decide +kernel)
theorem kS_PinchedBillModel_218 : kS "PinchedBillModel" 218 ⟨"PinchedBillModel", "weight", "(I)I"⟩ prog_11_method_30_code 1 (some .int) 1 := ⟨k_1512, k_1513, k_122, k_1514, by decide, by decide, by decide +kernel⟩
theorem d_X9_finest_8 : decode prog_11_method_39_code 8 = .ok (.invokestatic 218, 3) := by decide +kernel
theorem d_X9_finest_11 : decode prog_11_method_39_code 11 = .ok (.ireturn, 1) := by decide +kernel
theorem d_X9_isBill_0 : decode prog_11_method_40_code 0 = .ok (.lload_n 1, 1) := by decide +kernel
theorem d_X9_isBill_1 : decode prog_11_method_40_code 1 = .ok (.lconst 0, 1) := by decide +kernel
theorem k_1852 : Cond.constantLong "PinchedBillModel" 262 999 ∈ gd_tbl := gd_in 1852 (by decide +kernel) (by decide +kernel)
theorem d_X9_isBill_2 : decode prog_11_method_40_code 2 = .ok (.ldc2_w 262, 3) := by decide +kernel
theorem d_X9_isBill_5 : decode prog_11_method_40_code 5 = .ok (.invokestatic 140, 3) := by decide +kernel
theorem d_X9_isBill_8 : decode prog_11_method_40_code 8 = .ok (.ifCond .eq 19, 3) := by decide +kernel
theorem d_X9_isBill_11 : decode prog_11_method_40_code 11 = .ok (.lload_n 1, 1) := by decide +kernel
theorem d_X9_isBill_12 : decode prog_11_method_40_code 12 = .ok (.aload_n 0, 1) := by decide +kernel
theorem k_1544 : Cond.code ⟨"PinchedBillModel", "finest", "()I"⟩ prog_11_method_39_code 1 (some .int) ∈ gd_tbl := gd_in 1544 (by decide +kernel) (by decide +kernel)
theorem k_1541 : Cond.methodLink "PinchedBillModel" 264 ⟨"PinchedBillModel", "finest", "()I"⟩ ∈ gd_tbl := gd_in 1541 (by decide +kernel) (by decide +kernel)
theorem k_1543 : Cond.instanceMethod ⟨"PinchedBillModel", "finest", "()I"⟩ ∈ gd_tbl := gd_in 1543 (by decide +kernel) (by decide +kernel)
theorem k_51 : Cond.selects "PinchedBillModel" ⟨"PinchedBillModel", "finest", "()I"⟩ ⟨"PinchedBillModel", "finest", "()I"⟩ ∈ gd_tbl := gd_in 51 (by decide +kernel) (by decide +kernel)
theorem kV_PinchedBillModel_264 : kV "PinchedBillModel" 264 ⟨"PinchedBillModel", "finest", "()I"⟩ prog_11_method_39_code 1 (some .int) 0 := ⟨k_1541, k_1543, k_51, k_122, k_1544, by decide, by decide, by decide +kernel⟩
theorem d_X9_isBill_13 : decode prog_11_method_40_code 13 = .ok (.invokevirtual 264, 3) := by decide +kernel
theorem d_X9_isBill_16 : decode prog_11_method_40_code 16 = .ok (.i2l, 1) := by decide +kernel
theorem d_X9_isBill_17 : decode prog_11_method_40_code 17 = .ok (.lrem, 1) := by decide +kernel
theorem d_X9_isBill_18 : decode prog_11_method_40_code 18 = .ok (.lconst 0, 1) := by decide +kernel
theorem d_X9_isBill_19 : decode prog_11_method_40_code 19 = .ok (.lcmp, 1) := by decide +kernel
theorem d_X9_isBill_20 : decode prog_11_method_40_code 20 = .ok (.ifCond .ne 7, 3) := by decide +kernel
theorem d_X9_isBill_23 : decode prog_11_method_40_code 23 = .ok (.iconst 1, 1) := by decide +kernel
theorem d_X9_isBill_24 : decode prog_11_method_40_code 24 = .ok (.goto 4, 3) := by decide +kernel
theorem d_X9_isBill_28 : decode prog_11_method_40_code 28 = .ok (.ireturn, 1) := by decide +kernel
theorem d_X9_isBill_27 : decode prog_11_method_40_code 27 = .ok (.iconst 0, 1) := by decide +kernel
theorem d_X9_manyBills_0 : decode prog_11_method_41_code 0 = .ok (.sipush 1000, 3) := by decide +kernel
theorem d_X9_manyBills_3 : decode prog_11_method_41_code 3 = .ok (.aload_n 0, 1) := by decide +kernel
theorem d_X9_manyBills_4 : decode prog_11_method_41_code 4 = .ok (.invokevirtual 264, 3) := by decide +kernel
theorem d_X9_manyBills_7 : decode prog_11_method_41_code 7 = .ok (.idiv, 1) := by decide +kernel
theorem d_X9_manyBills_8 : decode prog_11_method_41_code 8 = .ok (.ireturn, 1) := by decide +kernel
theorem d_X9_figure_0 : decode prog_11_method_42_code 0 = .ok (.iload_n 0, 1) := by decide +kernel
theorem d_X9_figure_1 : decode prog_11_method_42_code 1 = .ok (.iload_n 1, 1) := by decide +kernel
theorem d_X9_figure_2 : decode prog_11_method_42_code 2 = .ok (.invokestatic 218, 3) := by decide +kernel
theorem d_X9_figure_5 : decode prog_11_method_42_code 5 = .ok (.idiv, 1) := by decide +kernel
theorem d_X9_figure_6 : decode prog_11_method_42_code 6 = .ok (.bipush 10, 2) := by decide +kernel
theorem d_X9_figure_8 : decode prog_11_method_42_code 8 = .ok (.irem, 1) := by decide +kernel
theorem d_X9_figure_9 : decode prog_11_method_42_code 9 = .ok (.ireturn, 1) := by decide +kernel
theorem d_X9_laysTables_0 : decode prog_11_method_51_code 0 = .ok (.iconst 0, 1) := by decide +kernel
theorem d_X9_laysTables_1 : decode prog_11_method_51_code 1 = .ok (.istore_n 1, 1) := by decide +kernel
theorem d_X9_laysTables_2 : decode prog_11_method_51_code 2 = .ok (.iload_n 1, 1) := by decide +kernel
theorem d_X9_laysTables_3 : decode prog_11_method_51_code 3 = .ok (.sipush 1000, 3) := by decide +kernel
theorem d_X9_laysTables_6 : decode prog_11_method_51_code 6 = .ok (.if_icmp .ge 78, 3) := by decide +kernel
theorem d_X9_laysTables_84 : decode prog_11_method_51_code 84 = .ok (.return_, 1) := by decide +kernel
theorem d_X9_laysTables_9 : decode prog_11_method_51_code 9 = .ok (.aload_n 0, 1) := by decide +kernel
theorem k_1566 : Cond.fieldLink "PinchedBillModel" 36 "PinchedBillModel" "pinch" "[I" ∈ gd_tbl := gd_in 1566 (by decide +kernel) (by decide +kernel)
theorem d_X9_laysTables_10 : decode prog_11_method_51_code 10 = .ok (.getfield 36, 3) := by decide +kernel
theorem d_X9_laysTables_13 : decode prog_11_method_51_code 13 = .ok (.iload_n 1, 1) := by decide +kernel
theorem d_X9_laysTables_14 : decode prog_11_method_51_code 14 = .ok (.iconst 0, 1) := by decide +kernel
theorem d_X9_laysTables_15 : decode prog_11_method_51_code 15 = .ok (.iastore, 1) := by decide +kernel
theorem d_X9_laysTables_16 : decode prog_11_method_51_code 16 = .ok (.iconst 0, 1) := by decide +kernel
theorem d_X9_laysTables_17 : decode prog_11_method_51_code 17 = .ok (.istore_n 2, 1) := by decide +kernel
theorem d_X9_laysTables_18 : decode prog_11_method_51_code 18 = .ok (.iload_n 2, 1) := by decide +kernel
theorem d_X9_laysTables_19 : decode prog_11_method_51_code 19 = .ok (.aload_n 0, 1) := by decide +kernel
theorem d_X9_laysTables_20 : decode prog_11_method_51_code 20 = .ok (.invokevirtual 259, 3) := by decide +kernel
theorem d_X9_laysTables_23 : decode prog_11_method_51_code 23 = .ok (.if_icmp .ge 51, 3) := by decide +kernel
theorem d_X9_laysTables_74 : decode prog_11_method_51_code 74 = .ok (.iload_n 1, 1) := by decide +kernel
theorem d_X9_laysTables_75 : decode prog_11_method_51_code 75 = .ok (.aload_n 0, 1) := by decide +kernel
theorem d_X9_laysTables_76 : decode prog_11_method_51_code 76 = .ok (.invokevirtual 264, 3) := by decide +kernel
theorem d_X9_laysTables_79 : decode prog_11_method_51_code 79 = .ok (.iadd, 1) := by decide +kernel
theorem d_X9_laysTables_80 : decode prog_11_method_51_code 80 = .ok (.istore_n 1, 1) := by decide +kernel
theorem d_X9_laysTables_81 : decode prog_11_method_51_code 81 = .ok (.goto (-79), 3) := by decide +kernel
theorem d_X9_init_0 : decode prog_11_method_1_code 0 = .ok (.aload_n 0, 1) := by decide +kernel
theorem k_1492 : Cond.methodLink "PinchedBillModel" 1 ⟨"java/lang/Object", "<init>", "()V"⟩ ∈ gd_tbl := gd_in 1492 (by decide +kernel) (by decide +kernel)
theorem d_X9_init_1 : decode prog_11_method_1_code 1 = .ok (.invokespecial 1, 3) := by decide +kernel
theorem d_X9_init_4 : decode prog_11_method_1_code 4 = .ok (.aload_n 0, 1) := by decide +kernel
theorem d_X9_init_5 : decode prog_11_method_1_code 5 = .ok (.sipush 1875, 3) := by decide +kernel
theorem d_X9_init_8 : decode prog_11_method_1_code 8 = .ok (.newarray .int, 2) := by decide +kernel
theorem d_X9_init_10 : decode prog_11_method_1_code 10 = .ok (.putfield 9, 3) := by decide +kernel
theorem d_X9_init_13 : decode prog_11_method_1_code 13 = .ok (.aload_n 0, 1) := by decide +kernel
theorem d_X9_init_14 : decode prog_11_method_1_code 14 = .ok (.sipush 1875, 3) := by decide +kernel
theorem d_X9_init_17 : decode prog_11_method_1_code 17 = .ok (.newarray .int, 2) := by decide +kernel
theorem k_1546 : Cond.fieldLink "PinchedBillModel" 13 "PinchedBillModel" "telling" "[I" ∈ gd_tbl := gd_in 1546 (by decide +kernel) (by decide +kernel)
theorem d_X9_init_19 : decode prog_11_method_1_code 19 = .ok (.putfield 13, 3) := by decide +kernel
theorem d_X9_init_22 : decode prog_11_method_1_code 22 = .ok (.aload_n 0, 1) := by decide +kernel
theorem d_X9_init_23 : decode prog_11_method_1_code 23 = .ok (.sipush 5625, 3) := by decide +kernel
theorem d_X9_init_26 : decode prog_11_method_1_code 26 = .ok (.newarray .int, 2) := by decide +kernel
theorem k_1547 : Cond.fieldLink "PinchedBillModel" 16 "PinchedBillModel" "images" "[I" ∈ gd_tbl := gd_in 1547 (by decide +kernel) (by decide +kernel)
theorem d_X9_init_28 : decode prog_11_method_1_code 28 = .ok (.putfield 16, 3) := by decide +kernel
theorem d_X9_init_31 : decode prog_11_method_1_code 31 = .ok (.aload_n 0, 1) := by decide +kernel
theorem d_X9_init_32 : decode prog_11_method_1_code 32 = .ok (.iconst 3, 1) := by decide +kernel
theorem k_1666 : Cond.arrayClass .boolean ∈ gd_tbl := gd_in 1666 (by decide +kernel) (by decide +kernel)
theorem d_X9_init_33 : decode prog_11_method_1_code 33 = .ok (.newarray .boolean, 2) := by decide +kernel
theorem k_1548 : Cond.fieldLink "PinchedBillModel" 19 "PinchedBillModel" "isImage" "[Z" ∈ gd_tbl := gd_in 1548 (by decide +kernel) (by decide +kernel)
theorem d_X9_init_35 : decode prog_11_method_1_code 35 = .ok (.putfield 19, 3) := by decide +kernel
theorem d_X9_init_38 : decode prog_11_method_1_code 38 = .ok (.aload_n 0, 1) := by decide +kernel
theorem d_X9_init_39 : decode prog_11_method_1_code 39 = .ok (.sipush 900, 3) := by decide +kernel
theorem d_X9_init_42 : decode prog_11_method_1_code 42 = .ok (.newarray .int, 2) := by decide +kernel
theorem k_1550 : Cond.fieldLink "PinchedBillModel" 23 "PinchedBillModel" "tape" "[I" ∈ gd_tbl := gd_in 1550 (by decide +kernel) (by decide +kernel)
theorem d_X9_init_44 : decode prog_11_method_1_code 44 = .ok (.putfield 23, 3) := by decide +kernel
theorem d_X9_init_47 : decode prog_11_method_1_code 47 = .ok (.aload_n 0, 1) := by decide +kernel
theorem d_X9_init_48 : decode prog_11_method_1_code 48 = .ok (.iconst (-1), 1) := by decide +kernel
theorem k_1560 : Cond.fieldLink "PinchedBillModel" 26 "PinchedBillModel" "faultPlace" "I" ∈ gd_tbl := gd_in 1560 (by decide +kernel) (by decide +kernel)
theorem d_X9_init_49 : decode prog_11_method_1_code 49 = .ok (.putfield 26, 3) := by decide +kernel
theorem d_X9_init_52 : decode prog_11_method_1_code 52 = .ok (.aload_n 0, 1) := by decide +kernel
theorem d_X9_init_53 : decode prog_11_method_1_code 53 = .ok (.bipush 64, 2) := by decide +kernel
theorem d_X9_init_55 : decode prog_11_method_1_code 55 = .ok (.newarray .int, 2) := by decide +kernel
theorem k_1564 : Cond.fieldLink "PinchedBillModel" 30 "PinchedBillModel" "stack" "[I" ∈ gd_tbl := gd_in 1564 (by decide +kernel) (by decide +kernel)
theorem d_X9_init_57 : decode prog_11_method_1_code 57 = .ok (.putfield 30, 3) := by decide +kernel
theorem d_X9_init_60 : decode prog_11_method_1_code 60 = .ok (.aload_n 0, 1) := by decide +kernel
theorem d_X9_init_61 : decode prog_11_method_1_code 61 = .ok (.bipush 8, 2) := by decide +kernel
theorem d_X9_init_63 : decode prog_11_method_1_code 63 = .ok (.newarray .int, 2) := by decide +kernel
theorem k_1565 : Cond.fieldLink "PinchedBillModel" 33 "PinchedBillModel" "asked" "[I" ∈ gd_tbl := gd_in 1565 (by decide +kernel) (by decide +kernel)
theorem d_X9_init_65 : decode prog_11_method_1_code 65 = .ok (.putfield 33, 3) := by decide +kernel
theorem d_X9_init_68 : decode prog_11_method_1_code 68 = .ok (.aload_n 0, 1) := by decide +kernel
theorem d_X9_init_69 : decode prog_11_method_1_code 69 = .ok (.sipush 1000, 3) := by decide +kernel
theorem d_X9_init_72 : decode prog_11_method_1_code 72 = .ok (.newarray .int, 2) := by decide +kernel
theorem d_X9_init_74 : decode prog_11_method_1_code 74 = .ok (.putfield 36, 3) := by decide +kernel
theorem d_X9_init_77 : decode prog_11_method_1_code 77 = .ok (.aload_n 0, 1) := by decide +kernel
theorem d_X9_init_78 : decode prog_11_method_1_code 78 = .ok (.sipush 8000, 3) := by decide +kernel
theorem d_X9_init_81 : decode prog_11_method_1_code 81 = .ok (.newarray .int, 2) := by decide +kernel
theorem k_1567 : Cond.fieldLink "PinchedBillModel" 39 "PinchedBillModel" "told" "[I" ∈ gd_tbl := gd_in 1567 (by decide +kernel) (by decide +kernel)
theorem d_X9_init_83 : decode prog_11_method_1_code 83 = .ok (.putfield 39, 3) := by decide +kernel
theorem d_X9_init_86 : decode prog_11_method_1_code 86 = .ok (.aload_n 0, 1) := by decide +kernel
theorem d_X9_init_87 : decode prog_11_method_1_code 87 = .ok (.iconst 3, 1) := by decide +kernel
theorem d_X9_init_88 : decode prog_11_method_1_code 88 = .ok (.newarray .int, 2) := by decide +kernel
theorem k_1568 : Cond.fieldLink "PinchedBillModel" 42 "PinchedBillModel" "aside" "[I" ∈ gd_tbl := gd_in 1568 (by decide +kernel) (by decide +kernel)
theorem d_X9_init_90 : decode prog_11_method_1_code 90 = .ok (.putfield 42, 3) := by decide +kernel
theorem d_X9_init_93 : decode prog_11_method_1_code 93 = .ok (.aload_n 0, 1) := by decide +kernel
theorem d_X9_init_94 : decode prog_11_method_1_code 94 = .ok (.sipush 9000, 3) := by decide +kernel
theorem d_X9_init_97 : decode prog_11_method_1_code 97 = .ok (.newarray .int, 2) := by decide +kernel
theorem k_1570 : Cond.fieldLink "PinchedBillModel" 45 "PinchedBillModel" "endOf" "[I" ∈ gd_tbl := gd_in 1570 (by decide +kernel) (by decide +kernel)
theorem d_X9_init_99 : decode prog_11_method_1_code 99 = .ok (.putfield 45, 3) := by decide +kernel
theorem d_X9_init_102 : decode prog_11_method_1_code 102 = .ok (.aload_n 0, 1) := by decide +kernel
theorem d_X9_init_103 : decode prog_11_method_1_code 103 = .ok (.sipush 9000, 3) := by decide +kernel
theorem d_X9_init_106 : decode prog_11_method_1_code 106 = .ok (.newarray .int, 2) := by decide +kernel
theorem k_1571 : Cond.fieldLink "PinchedBillModel" 48 "PinchedBillModel" "stepsOf" "[I" ∈ gd_tbl := gd_in 1571 (by decide +kernel) (by decide +kernel)
theorem d_X9_init_108 : decode prog_11_method_1_code 108 = .ok (.putfield 48, 3) := by decide +kernel
theorem d_X9_init_111 : decode prog_11_method_1_code 111 = .ok (.aload_n 0, 1) := by decide +kernel
theorem d_X9_init_112 : decode prog_11_method_1_code 112 = .ok (.sipush 9001, 3) := by decide +kernel
theorem d_X9_init_115 : decode prog_11_method_1_code 115 = .ok (.newarray .int, 2) := by decide +kernel
theorem k_1572 : Cond.fieldLink "PinchedBillModel" 51 "PinchedBillModel" "way" "[I" ∈ gd_tbl := gd_in 1572 (by decide +kernel) (by decide +kernel)
theorem d_X9_init_117 : decode prog_11_method_1_code 117 = .ok (.putfield 51, 3) := by decide +kernel
theorem d_X9_init_120 : decode prog_11_method_1_code 120 = .ok (.aload_n 0, 1) := by decide +kernel
theorem d_X9_init_121 : decode prog_11_method_1_code 121 = .ok (.bipush 8, 2) := by decide +kernel
theorem d_X9_init_123 : decode prog_11_method_1_code 123 = .ok (.newarray .int, 2) := by decide +kernel
theorem k_1575 : Cond.fieldLink "PinchedBillModel" 54 "PinchedBillModel" "often" "[I" ∈ gd_tbl := gd_in 1575 (by decide +kernel) (by decide +kernel)
theorem d_X9_init_125 : decode prog_11_method_1_code 125 = .ok (.putfield 54, 3) := by decide +kernel
theorem d_X9_init_128 : decode prog_11_method_1_code 128 = .ok (.aload_n 0, 1) := by decide +kernel
theorem d_X9_init_129 : decode prog_11_method_1_code 129 = .ok (.sipush 1000, 3) := by decide +kernel
theorem d_X9_init_132 : decode prog_11_method_1_code 132 = .ok (.newarray .int, 2) := by decide +kernel
theorem k_1576 : Cond.fieldLink "PinchedBillModel" 57 "PinchedBillModel" "fits" "[I" ∈ gd_tbl := gd_in 1576 (by decide +kernel) (by decide +kernel)
theorem d_X9_init_134 : decode prog_11_method_1_code 134 = .ok (.putfield 57, 3) := by decide +kernel
theorem d_X9_init_137 : decode prog_11_method_1_code 137 = .ok (.aload_n 0, 1) := by decide +kernel
theorem d_X9_init_138 : decode prog_11_method_1_code 138 = .ok (.sipush 1000, 3) := by decide +kernel
theorem d_X9_init_141 : decode prog_11_method_1_code 141 = .ok (.newarray .int, 2) := by decide +kernel
theorem k_1578 : Cond.fieldLink "PinchedBillModel" 60 "PinchedBillModel" "alike" "[I" ∈ gd_tbl := gd_in 1578 (by decide +kernel) (by decide +kernel)
theorem d_X9_init_143 : decode prog_11_method_1_code 143 = .ok (.putfield 60, 3) := by decide +kernel
theorem d_X9_init_146 : decode prog_11_method_1_code 146 = .ok (.aload_n 0, 1) := by decide +kernel
theorem d_X9_init_147 : decode prog_11_method_1_code 147 = .ok (.sipush 256, 3) := by decide +kernel
theorem d_X9_init_150 : decode prog_11_method_1_code 150 = .ok (.newarray .boolean, 2) := by decide +kernel
theorem k_1581 : Cond.fieldLink "PinchedBillModel" 63 "PinchedBillModel" "endsBy" "[Z" ∈ gd_tbl := gd_in 1581 (by decide +kernel) (by decide +kernel)
theorem d_X9_init_152 : decode prog_11_method_1_code 152 = .ok (.putfield 63, 3) := by decide +kernel
theorem d_X9_init_155 : decode prog_11_method_1_code 155 = .ok (.aload_n 0, 1) := by decide +kernel
theorem d_X9_init_156 : decode prog_11_method_1_code 156 = .ok (.iconst 4, 1) := by decide +kernel
theorem d_X9_init_157 : decode prog_11_method_1_code 157 = .ok (.newarray .int, 2) := by decide +kernel
theorem d_X9_init_159 : decode prog_11_method_1_code 159 = .ok (.dup, 1) := by decide +kernel
theorem d_X9_init_160 : decode prog_11_method_1_code 160 = .ok (.iconst 0, 1) := by decide +kernel
theorem d_X9_init_161 : decode prog_11_method_1_code 161 = .ok (.iconst (-1), 1) := by decide +kernel
theorem d_X9_init_162 : decode prog_11_method_1_code 162 = .ok (.iastore, 1) := by decide +kernel
theorem d_X9_init_163 : decode prog_11_method_1_code 163 = .ok (.dup, 1) := by decide +kernel
theorem d_X9_init_164 : decode prog_11_method_1_code 164 = .ok (.iconst 1, 1) := by decide +kernel
theorem d_X9_init_165 : decode prog_11_method_1_code 165 = .ok (.iconst (-1), 1) := by decide +kernel
theorem d_X9_init_166 : decode prog_11_method_1_code 166 = .ok (.iastore, 1) := by decide +kernel
theorem d_X9_init_167 : decode prog_11_method_1_code 167 = .ok (.dup, 1) := by decide +kernel
theorem d_X9_init_168 : decode prog_11_method_1_code 168 = .ok (.iconst 2, 1) := by decide +kernel
theorem d_X9_init_169 : decode prog_11_method_1_code 169 = .ok (.iconst (-1), 1) := by decide +kernel
theorem d_X9_init_170 : decode prog_11_method_1_code 170 = .ok (.iastore, 1) := by decide +kernel
theorem d_X9_init_171 : decode prog_11_method_1_code 171 = .ok (.dup, 1) := by decide +kernel
theorem d_X9_init_172 : decode prog_11_method_1_code 172 = .ok (.iconst 3, 1) := by decide +kernel
theorem d_X9_init_173 : decode prog_11_method_1_code 173 = .ok (.iconst (-1), 1) := by decide +kernel
theorem d_X9_init_174 : decode prog_11_method_1_code 174 = .ok (.iastore, 1) := by decide +kernel
theorem k_1582 : Cond.fieldLink "PinchedBillModel" 66 "PinchedBillModel" "tSort" "[I" ∈ gd_tbl := gd_in 1582 (by decide +kernel) (by decide +kernel)
theorem d_X9_init_175 : decode prog_11_method_1_code 175 = .ok (.putfield 66, 3) := by decide +kernel
theorem d_X9_init_178 : decode prog_11_method_1_code 178 = .ok (.aload_n 0, 1) := by decide +kernel
theorem d_X9_init_179 : decode prog_11_method_1_code 179 = .ok (.iconst 4, 1) := by decide +kernel
theorem d_X9_init_180 : decode prog_11_method_1_code 180 = .ok (.newarray .int, 2) := by decide +kernel
theorem k_1583 : Cond.fieldLink "PinchedBillModel" 69 "PinchedBillModel" "tMany" "[I" ∈ gd_tbl := gd_in 1583 (by decide +kernel) (by decide +kernel)
theorem d_X9_init_182 : decode prog_11_method_1_code 182 = .ok (.putfield 69, 3) := by decide +kernel
theorem d_X9_init_185 : decode prog_11_method_1_code 185 = .ok (.aload_n 0, 1) := by decide +kernel
theorem d_X9_init_186 : decode prog_11_method_1_code 186 = .ok (.bipush 120, 2) := by decide +kernel
theorem d_X9_init_188 : decode prog_11_method_1_code 188 = .ok (.newarray .long, 2) := by decide +kernel
theorem k_1584 : Cond.fieldLink "PinchedBillModel" 72 "PinchedBillModel" "numbers" "[J" ∈ gd_tbl := gd_in 1584 (by decide +kernel) (by decide +kernel)
theorem d_X9_init_190 : decode prog_11_method_1_code 190 = .ok (.putfield 72, 3) := by decide +kernel
theorem d_X9_init_193 : decode prog_11_method_1_code 193 = .ok (.aload_n 0, 1) := by decide +kernel
theorem d_X9_init_194 : decode prog_11_method_1_code 194 = .ok (.getfield 9, 3) := by decide +kernel
theorem d_X9_init_197 : decode prog_11_method_1_code 197 = .ok (.iconst 1, 1) := by decide +kernel
theorem d_X9_init_198 : decode prog_11_method_1_code 198 = .ok (.iconst 1, 1) := by decide +kernel
theorem d_X9_init_199 : decode prog_11_method_1_code 199 = .ok (.iastore, 1) := by decide +kernel
theorem d_X9_init_200 : decode prog_11_method_1_code 200 = .ok (.aload_n 0, 1) := by decide +kernel
theorem d_X9_init_201 : decode prog_11_method_1_code 201 = .ok (.getfield 9, 3) := by decide +kernel
theorem d_X9_init_204 : decode prog_11_method_1_code 204 = .ok (.bipush 7, 2) := by decide +kernel
theorem d_X9_init_206 : decode prog_11_method_1_code 206 = .ok (.iconst (-1), 1) := by decide +kernel
theorem d_X9_init_207 : decode prog_11_method_1_code 207 = .ok (.iastore, 1) := by decide +kernel
theorem d_X9_init_208 : decode prog_11_method_1_code 208 = .ok (.aload_n 0, 1) := by decide +kernel
theorem k_1496 : Cond.code ⟨"PinchedBillModel", "laysTables", "()V"⟩ prog_11_method_51_code 3 none ∈ gd_tbl := gd_in 1496 (by decide +kernel) (by decide +kernel)
theorem k_1493 : Cond.methodLink "PinchedBillModel" 76 ⟨"PinchedBillModel", "laysTables", "()V"⟩ ∈ gd_tbl := gd_in 1493 (by decide +kernel) (by decide +kernel)
theorem k_1495 : Cond.instanceMethod ⟨"PinchedBillModel", "laysTables", "()V"⟩ ∈ gd_tbl := gd_in 1495 (by decide +kernel) (by decide +kernel)
theorem k_43 : Cond.selects "PinchedBillModel" ⟨"PinchedBillModel", "laysTables", "()V"⟩ ⟨"PinchedBillModel", "laysTables", "()V"⟩ ∈ gd_tbl := gd_in 43 (by decide +kernel) (by decide +kernel)
theorem kV_PinchedBillModel_76 : kV "PinchedBillModel" 76 ⟨"PinchedBillModel", "laysTables", "()V"⟩ prog_11_method_51_code 3 none 0 := ⟨k_1493, k_1495, k_43, k_122, k_1496, by decide, by decide, by decide +kernel⟩
theorem d_X9_init_209 : decode prog_11_method_1_code 209 = .ok (.invokevirtual 76, 3) := by decide +kernel
theorem d_X9_init_212 : decode prog_11_method_1_code 212 = .ok (.return_, 1) := by decide +kernel
theorem d_X9_thrown_0 : decode prog_11_method_2_code 0 = .ok (.aload_n 0, 1) := by decide +kernel
theorem k_1549 : Cond.fieldLink "PinchedBillModel" 79 "PinchedBillModel" "thrown" "I" ∈ gd_tbl := gd_in 1549 (by decide +kernel) (by decide +kernel)
theorem d_X9_thrown_1 : decode prog_11_method_2_code 1 = .ok (.getfield 79, 3) := by decide +kernel
theorem d_X9_thrown_4 : decode prog_11_method_2_code 4 = .ok (.ireturn, 1) := by decide +kernel
theorem d_X9_fails_0 : decode prog_11_method_3_code 0 = .ok (.aload_n 0, 1) := by decide +kernel
theorem d_X9_fails_1 : decode prog_11_method_3_code 1 = .ok (.iload_n 1, 1) := by decide +kernel
theorem d_X9_fails_2 : decode prog_11_method_3_code 2 = .ok (.putfield 79, 3) := by decide +kernel
theorem d_X9_fails_5 : decode prog_11_method_3_code 5 = .ok (.iconst 0, 1) := by decide +kernel
theorem d_X9_fails_6 : decode prog_11_method_3_code 6 = .ok (.ireturn, 1) := by decide +kernel
theorem d_X9_speaker_0 : decode prog_11_method_52_code 0 = .ok (.aload_n 0, 1) := by decide +kernel
theorem d_X9_speaker_1 : decode prog_11_method_52_code 1 = .ok (.getfield 36, 3) := by decide +kernel
theorem d_X9_speaker_4 : decode prog_11_method_52_code 4 = .ok (.iload_n 1, 1) := by decide +kernel
theorem d_X9_speaker_5 : decode prog_11_method_52_code 5 = .ok (.iaload, 1) := by decide +kernel
theorem d_X9_speaker_6 : decode prog_11_method_52_code 6 = .ok (.iload_n 3, 1) := by decide +kernel
theorem d_X9_speaker_7 : decode prog_11_method_52_code 7 = .ok (.iand, 1) := by decide +kernel
theorem d_X9_speaker_8 : decode prog_11_method_52_code 8 = .ok (.istore 4, 2) := by decide +kernel
theorem d_X9_speaker_10 : decode prog_11_method_52_code 10 = .ok (.iload 4, 2) := by decide +kernel
theorem d_X9_speaker_12 : decode prog_11_method_52_code 12 = .ok (.ifCond .ne 5, 3) := by decide +kernel
theorem d_X9_speaker_15 : decode prog_11_method_52_code 15 = .ok (.iconst (-1), 1) := by decide +kernel
theorem d_X9_speaker_16 : decode prog_11_method_52_code 16 = .ok (.ireturn, 1) := by decide +kernel
theorem d_X9_nextNow_0 : decode prog_11_method_53_code 0 = .ok (.aload_n 0, 1) := by decide +kernel
theorem d_X9_nextNow_1 : decode prog_11_method_53_code 1 = .ok (.aload_n 0, 1) := by decide +kernel
theorem d_X9_nextNow_2 : decode prog_11_method_53_code 2 = .ok (.getfield 9, 3) := by decide +kernel
theorem d_X9_nextNow_5 : decode prog_11_method_53_code 5 = .ok (.bipush 6, 2) := by decide +kernel
theorem d_X9_nextNow_7 : decode prog_11_method_53_code 7 = .ok (.iaload, 1) := by decide +kernel
theorem d_X9_nextNow_8 : decode prog_11_method_53_code 8 = .ok (.aload_n 0, 1) := by decide +kernel
theorem d_X9_nextNow_9 : decode prog_11_method_53_code 9 = .ok (.getfield 9, 3) := by decide +kernel
theorem d_X9_nextNow_12 : decode prog_11_method_53_code 12 = .ok (.bipush 7, 2) := by decide +kernel
theorem d_X9_nextNow_14 : decode prog_11_method_53_code 14 = .ok (.iaload, 1) := by decide +kernel
theorem d_X9_nextNow_15 : decode prog_11_method_53_code 15 = .ok (.aload_n 0, 1) := by decide +kernel
theorem d_X9_nextNow_16 : decode prog_11_method_53_code 16 = .ok (.getfield 9, 3) := by decide +kernel
theorem d_X9_nextNow_19 : decode prog_11_method_53_code 19 = .ok (.bipush 8, 2) := by decide +kernel
theorem d_X9_nextNow_21 : decode prog_11_method_53_code 21 = .ok (.iaload, 1) := by decide +kernel
theorem k_1843 : Cond.code ⟨"PinchedBillModel", "speaker", "(III)I"⟩ prog_11_method_52_code 6 (some .int) ∈ gd_tbl := gd_in 1843 (by decide +kernel) (by decide +kernel)
theorem k_1840 : Cond.methodLink "PinchedBillModel" 314 ⟨"PinchedBillModel", "speaker", "(III)I"⟩ ∈ gd_tbl := gd_in 1840 (by decide +kernel) (by decide +kernel)
theorem k_1842 : Cond.instanceMethod ⟨"PinchedBillModel", "speaker", "(III)I"⟩ ∈ gd_tbl := gd_in 1842 (by decide +kernel) (by decide +kernel)
theorem k_78 : Cond.selects "PinchedBillModel" ⟨"PinchedBillModel", "speaker", "(III)I"⟩ ⟨"PinchedBillModel", "speaker", "(III)I"⟩ ∈ gd_tbl := gd_in 78 (by decide +kernel) (by decide +kernel)
theorem kV_PinchedBillModel_314 : kV "PinchedBillModel" 314 ⟨"PinchedBillModel", "speaker", "(III)I"⟩ prog_11_method_52_code 6 (some .int) 3 := ⟨k_1840, k_1842, k_78, k_122, k_1843, by decide, by decide, by decide +kernel⟩
theorem d_X9_nextNow_22 : decode prog_11_method_53_code 22 = .ok (.invokevirtual 314, 3) := by decide +kernel
theorem d_X9_nextNow_25 : decode prog_11_method_53_code 25 = .ok (.ireturn, 1) := by decide +kernel
theorem d_X9_stateOf_0 : decode prog_11_method_79_code 0 = .ok (.bipush 9, 2) := by decide +kernel
theorem d_X9_stateOf_2 : decode prog_11_method_79_code 2 = .ok (.iload_n 0, 1) := by decide +kernel
theorem d_X9_stateOf_3 : decode prog_11_method_79_code 3 = .ok (.imul, 1) := by decide +kernel
theorem d_X9_stateOf_4 : decode prog_11_method_79_code 4 = .ok (.iload_n 1, 1) := by decide +kernel
theorem d_X9_stateOf_5 : decode prog_11_method_79_code 5 = .ok (.iadd, 1) := by decide +kernel
theorem d_X9_stateOf_6 : decode prog_11_method_79_code 6 = .ok (.iconst 1, 1) := by decide +kernel
theorem d_X9_stateOf_7 : decode prog_11_method_79_code 7 = .ok (.iadd, 1) := by decide +kernel
theorem d_X9_stateOf_8 : decode prog_11_method_79_code 8 = .ok (.ireturn, 1) := by decide +kernel
theorem d_X9_onward_0 : decode prog_11_method_80_code 0 = .ok (.iload_n 1, 1) := by decide +kernel
theorem d_X9_onward_1 : decode prog_11_method_80_code 1 = .ok (.bipush 9, 2) := by decide +kernel
theorem d_X9_onward_3 : decode prog_11_method_80_code 3 = .ok (.idiv, 1) := by decide +kernel
theorem d_X9_onward_4 : decode prog_11_method_80_code 4 = .ok (.istore_n 3, 1) := by decide +kernel
theorem d_X9_onward_5 : decode prog_11_method_80_code 5 = .ok (.aload_n 0, 1) := by decide +kernel
theorem d_X9_onward_6 : decode prog_11_method_80_code 6 = .ok (.iload_n 3, 1) := by decide +kernel
theorem d_X9_onward_7 : decode prog_11_method_80_code 7 = .ok (.iload_n 1, 1) := by decide +kernel
theorem d_X9_onward_8 : decode prog_11_method_80_code 8 = .ok (.bipush 9, 2) := by decide +kernel
theorem d_X9_onward_10 : decode prog_11_method_80_code 10 = .ok (.irem, 1) := by decide +kernel
theorem d_X9_onward_11 : decode prog_11_method_80_code 11 = .ok (.iconst 1, 1) := by decide +kernel
theorem d_X9_onward_12 : decode prog_11_method_80_code 12 = .ok (.isub, 1) := by decide +kernel
theorem d_X9_onward_13 : decode prog_11_method_80_code 13 = .ok (.iload_n 2, 1) := by decide +kernel
theorem d_X9_onward_14 : decode prog_11_method_80_code 14 = .ok (.invokevirtual 314, 3) := by decide +kernel
theorem d_X9_onward_17 : decode prog_11_method_80_code 17 = .ok (.istore 4, 2) := by decide +kernel
theorem d_X9_onward_19 : decode prog_11_method_80_code 19 = .ok (.iload 4, 2) := by decide +kernel
theorem d_X9_onward_21 : decode prog_11_method_80_code 21 = .ok (.iconst (-1), 1) := by decide +kernel
theorem d_X9_onward_22 : decode prog_11_method_80_code 22 = .ok (.if_icmp .ne 7, 3) := by decide +kernel
theorem d_X9_onward_25 : decode prog_11_method_80_code 25 = .ok (.iconst (-1), 1) := by decide +kernel
theorem d_X9_onward_26 : decode prog_11_method_80_code 26 = .ok (.goto 20, 3) := by decide +kernel
theorem d_X9_onward_46 : decode prog_11_method_80_code 46 = .ok (.ireturn, 1) := by decide +kernel
theorem d_X9_forgets_0 : decode prog_11_method_81_code 0 = .ok (.iconst 0, 1) := by decide +kernel
theorem d_X9_forgets_1 : decode prog_11_method_81_code 1 = .ok (.istore_n 1, 1) := by decide +kernel
theorem d_X9_forgets_2 : decode prog_11_method_81_code 2 = .ok (.iload_n 1, 1) := by decide +kernel
theorem d_X9_forgets_3 : decode prog_11_method_81_code 3 = .ok (.sipush 9000, 3) := by decide +kernel
theorem d_X9_forgets_6 : decode prog_11_method_81_code 6 = .ok (.if_icmp .ge 17, 3) := by decide +kernel
theorem d_X9_forgets_23 : decode prog_11_method_81_code 23 = .ok (.return_, 1) := by decide +kernel
theorem d_X9_forgets_9 : decode prog_11_method_81_code 9 = .ok (.aload_n 0, 1) := by decide +kernel
theorem d_X9_forgets_10 : decode prog_11_method_81_code 10 = .ok (.getfield 45, 3) := by decide +kernel
theorem d_X9_forgets_13 : decode prog_11_method_81_code 13 = .ok (.iload_n 1, 1) := by decide +kernel
theorem d_X9_forgets_14 : decode prog_11_method_81_code 14 = .ok (.bipush (-2), 2) := by decide +kernel
theorem d_X9_forgets_16 : decode prog_11_method_81_code 16 = .ok (.iastore, 1) := by decide +kernel
theorem d_X9_forgets_17 : decode prog_11_method_81_code 17 = .ok (.iinc 1 1, 3) := by decide +kernel
theorem d_X9_forgets_20 : decode prog_11_method_81_code 20 = .ok (.goto (-18), 3) := by decide +kernel
theorem d_X9_laysFrom_0 : decode prog_11_method_82_code 0 = .ok (.iconst 0, 1) := by decide +kernel
theorem d_X9_laysFrom_1 : decode prog_11_method_82_code 1 = .ok (.istore_n 3, 1) := by decide +kernel
theorem d_X9_laysFrom_2 : decode prog_11_method_82_code 2 = .ok (.iload_n 1, 1) := by decide +kernel
theorem d_X9_laysFrom_3 : decode prog_11_method_82_code 3 = .ok (.istore 4, 2) := by decide +kernel
theorem d_X9_laysFrom_5 : decode prog_11_method_82_code 5 = .ok (.iload 4, 2) := by decide +kernel
theorem d_X9_laysFrom_7 : decode prog_11_method_82_code 7 = .ok (.iconst (-1), 1) := by decide +kernel
theorem d_X9_laysFrom_8 : decode prog_11_method_82_code 8 = .ok (.if_icmp .eq 47, 3) := by decide +kernel
theorem d_X9_laysFrom_11 : decode prog_11_method_82_code 11 = .ok (.aload_n 0, 1) := by decide +kernel
theorem d_X9_laysFrom_12 : decode prog_11_method_82_code 12 = .ok (.getfield 45, 3) := by decide +kernel
theorem d_X9_laysFrom_15 : decode prog_11_method_82_code 15 = .ok (.iload 4, 2) := by decide +kernel
theorem d_X9_laysFrom_17 : decode prog_11_method_82_code 17 = .ok (.iaload, 1) := by decide +kernel
theorem d_X9_laysFrom_18 : decode prog_11_method_82_code 18 = .ok (.bipush (-2), 2) := by decide +kernel
theorem d_X9_laysFrom_20 : decode prog_11_method_82_code 20 = .ok (.if_icmp .ne 35, 3) := by decide +kernel
theorem d_X9_laysFrom_23 : decode prog_11_method_82_code 23 = .ok (.aload_n 0, 1) := by decide +kernel
theorem d_X9_laysFrom_24 : decode prog_11_method_82_code 24 = .ok (.getfield 45, 3) := by decide +kernel
theorem d_X9_laysFrom_27 : decode prog_11_method_82_code 27 = .ok (.iload 4, 2) := by decide +kernel
theorem d_X9_laysFrom_29 : decode prog_11_method_82_code 29 = .ok (.bipush (-3), 2) := by decide +kernel
theorem d_X9_laysFrom_31 : decode prog_11_method_82_code 31 = .ok (.iastore, 1) := by decide +kernel
theorem d_X9_laysFrom_32 : decode prog_11_method_82_code 32 = .ok (.aload_n 0, 1) := by decide +kernel
theorem d_X9_laysFrom_33 : decode prog_11_method_82_code 33 = .ok (.getfield 51, 3) := by decide +kernel
theorem d_X9_laysFrom_36 : decode prog_11_method_82_code 36 = .ok (.iload_n 3, 1) := by decide +kernel
theorem d_X9_laysFrom_37 : decode prog_11_method_82_code 37 = .ok (.iload 4, 2) := by decide +kernel
theorem d_X9_laysFrom_39 : decode prog_11_method_82_code 39 = .ok (.iastore, 1) := by decide +kernel
theorem d_X9_laysFrom_40 : decode prog_11_method_82_code 40 = .ok (.iinc 3 1, 3) := by decide +kernel
theorem d_X9_laysFrom_43 : decode prog_11_method_82_code 43 = .ok (.aload_n 0, 1) := by decide +kernel
theorem d_X9_laysFrom_44 : decode prog_11_method_82_code 44 = .ok (.iload 4, 2) := by decide +kernel
theorem d_X9_laysFrom_46 : decode prog_11_method_82_code 46 = .ok (.iload_n 2, 1) := by decide +kernel
theorem k_1974 : Cond.code ⟨"PinchedBillModel", "onward", "(II)I"⟩ prog_11_method_80_code 5 (some .int) ∈ gd_tbl := gd_in 1974 (by decide +kernel) (by decide +kernel)
theorem k_1971 : Cond.methodLink "PinchedBillModel" 394 ⟨"PinchedBillModel", "onward", "(II)I"⟩ ∈ gd_tbl := gd_in 1971 (by decide +kernel) (by decide +kernel)
theorem k_1973 : Cond.instanceMethod ⟨"PinchedBillModel", "onward", "(II)I"⟩ ∈ gd_tbl := gd_in 1973 (by decide +kernel) (by decide +kernel)
theorem k_95 : Cond.selects "PinchedBillModel" ⟨"PinchedBillModel", "onward", "(II)I"⟩ ⟨"PinchedBillModel", "onward", "(II)I"⟩ ∈ gd_tbl := gd_in 95 (by decide +kernel) (by decide +kernel)
theorem kV_PinchedBillModel_394 : kV "PinchedBillModel" 394 ⟨"PinchedBillModel", "onward", "(II)I"⟩ prog_11_method_80_code 5 (some .int) 2 := ⟨k_1971, k_1973, k_95, k_122, k_1974, by decide, by decide, by decide +kernel⟩
theorem d_X9_laysFrom_47 : decode prog_11_method_82_code 47 = .ok (.invokevirtual 394, 3) := by decide +kernel
theorem d_X9_laysFrom_50 : decode prog_11_method_82_code 50 = .ok (.istore 4, 2) := by decide +kernel
theorem d_X9_laysFrom_52 : decode prog_11_method_82_code 52 = .ok (.goto (-47), 3) := by decide +kernel
theorem d_X9_laysFrom_55 : decode prog_11_method_82_code 55 = .ok (.iload 4, 2) := by decide +kernel
theorem d_X9_laysFrom_57 : decode prog_11_method_82_code 57 = .ok (.iconst (-1), 1) := by decide +kernel
theorem d_X9_laysFrom_58 : decode prog_11_method_82_code 58 = .ok (.if_icmp .ne 7, 3) := by decide +kernel
theorem d_X9_laysFrom_61 : decode prog_11_method_82_code 61 = .ok (.iconst 1, 1) := by decide +kernel
theorem d_X9_laysFrom_62 : decode prog_11_method_82_code 62 = .ok (.goto 4, 3) := by decide +kernel
theorem d_X9_laysFrom_66 : decode prog_11_method_82_code 66 = .ok (.istore 5, 2) := by decide +kernel
theorem d_X9_laysFrom_68 : decode prog_11_method_82_code 68 = .ok (.iload 5, 2) := by decide +kernel
theorem d_X9_laysFrom_70 : decode prog_11_method_82_code 70 = .ok (.ifCond .eq 17, 3) := by decide +kernel
theorem d_X9_laysFrom_73 : decode prog_11_method_82_code 73 = .ok (.aload_n 0, 1) := by decide +kernel
theorem d_X9_laysFrom_74 : decode prog_11_method_82_code 74 = .ok (.getfield 51, 3) := by decide +kernel
theorem d_X9_laysFrom_77 : decode prog_11_method_82_code 77 = .ok (.iload_n 3, 1) := by decide +kernel
theorem d_X9_laysFrom_78 : decode prog_11_method_82_code 78 = .ok (.iconst 1, 1) := by decide +kernel
theorem d_X9_laysFrom_79 : decode prog_11_method_82_code 79 = .ok (.isub, 1) := by decide +kernel
theorem d_X9_laysFrom_80 : decode prog_11_method_82_code 80 = .ok (.iaload, 1) := by decide +kernel
theorem d_X9_laysFrom_81 : decode prog_11_method_82_code 81 = .ok (.bipush 9, 2) := by decide +kernel
theorem d_X9_laysFrom_83 : decode prog_11_method_82_code 83 = .ok (.idiv, 1) := by decide +kernel
theorem d_X9_laysFrom_84 : decode prog_11_method_82_code 84 = .ok (.goto 26, 3) := by decide +kernel
theorem d_X9_laysFrom_110 : decode prog_11_method_82_code 110 = .ok (.istore 6, 2) := by decide +kernel
theorem d_X9_laysFrom_112 : decode prog_11_method_82_code 112 = .ok (.iload 5, 2) := by decide +kernel
theorem d_X9_laysFrom_114 : decode prog_11_method_82_code 114 = .ok (.ifCond .eq 7, 3) := by decide +kernel
theorem d_X9_laysFrom_117 : decode prog_11_method_82_code 117 = .ok (.iconst (-1), 1) := by decide +kernel
theorem d_X9_laysFrom_118 : decode prog_11_method_82_code 118 = .ok (.goto 20, 3) := by decide +kernel
theorem d_X9_laysFrom_138 : decode prog_11_method_82_code 138 = .ok (.istore 7, 2) := by decide +kernel
theorem d_X9_laysFrom_140 : decode prog_11_method_82_code 140 = .ok (.iload_n 3, 1) := by decide +kernel
theorem d_X9_laysFrom_141 : decode prog_11_method_82_code 141 = .ok (.iconst 1, 1) := by decide +kernel
theorem d_X9_laysFrom_142 : decode prog_11_method_82_code 142 = .ok (.isub, 1) := by decide +kernel
theorem d_X9_laysFrom_143 : decode prog_11_method_82_code 143 = .ok (.istore 8, 2) := by decide +kernel
theorem d_X9_laysFrom_145 : decode prog_11_method_82_code 145 = .ok (.iload 8, 2) := by decide +kernel
theorem d_X9_laysFrom_147 : decode prog_11_method_82_code 147 = .ok (.ifCond .lt 40, 3) := by decide +kernel
theorem d_X9_laysFrom_150 : decode prog_11_method_82_code 150 = .ok (.iinc 7 1, 3) := by decide +kernel
theorem d_X9_laysFrom_153 : decode prog_11_method_82_code 153 = .ok (.aload_n 0, 1) := by decide +kernel
theorem d_X9_laysFrom_154 : decode prog_11_method_82_code 154 = .ok (.getfield 45, 3) := by decide +kernel
theorem d_X9_laysFrom_157 : decode prog_11_method_82_code 157 = .ok (.aload_n 0, 1) := by decide +kernel
theorem d_X9_laysFrom_158 : decode prog_11_method_82_code 158 = .ok (.getfield 51, 3) := by decide +kernel
theorem d_X9_laysFrom_161 : decode prog_11_method_82_code 161 = .ok (.iload 8, 2) := by decide +kernel
theorem d_X9_laysFrom_163 : decode prog_11_method_82_code 163 = .ok (.iaload, 1) := by decide +kernel
theorem d_X9_laysFrom_164 : decode prog_11_method_82_code 164 = .ok (.iload 6, 2) := by decide +kernel
theorem d_X9_laysFrom_166 : decode prog_11_method_82_code 166 = .ok (.iastore, 1) := by decide +kernel
theorem d_X9_laysFrom_167 : decode prog_11_method_82_code 167 = .ok (.aload_n 0, 1) := by decide +kernel
theorem d_X9_laysFrom_168 : decode prog_11_method_82_code 168 = .ok (.getfield 48, 3) := by decide +kernel
theorem d_X9_laysFrom_171 : decode prog_11_method_82_code 171 = .ok (.aload_n 0, 1) := by decide +kernel
theorem d_X9_laysFrom_172 : decode prog_11_method_82_code 172 = .ok (.getfield 51, 3) := by decide +kernel
theorem d_X9_laysFrom_175 : decode prog_11_method_82_code 175 = .ok (.iload 8, 2) := by decide +kernel
theorem d_X9_laysFrom_177 : decode prog_11_method_82_code 177 = .ok (.iaload, 1) := by decide +kernel
theorem d_X9_laysFrom_178 : decode prog_11_method_82_code 178 = .ok (.iload 7, 2) := by decide +kernel
theorem d_X9_laysFrom_180 : decode prog_11_method_82_code 180 = .ok (.iastore, 1) := by decide +kernel
theorem d_X9_laysFrom_181 : decode prog_11_method_82_code 181 = .ok (.iinc 8 (-1), 3) := by decide +kernel
theorem d_X9_laysFrom_184 : decode prog_11_method_82_code 184 = .ok (.goto (-39), 3) := by decide +kernel
theorem d_X9_laysFrom_187 : decode prog_11_method_82_code 187 = .ok (.return_, 1) := by decide +kernel
theorem lN_div {a d : Nat} (ha : a < 2 ^ 31) (h0 : 0 < d) (hd : d < 2 ^ 31) : lN a / lN d = lN (a / d) := by
  apply Int64.toInt_inj.mp
  rw [lg_ldiv_nonneg (by rw [lN_toInt ha]; omega) (by rw [lN_toInt hd]; omega), lN_toInt ha, lN_toInt hd, lN_toInt (Nat.lt_of_le_of_lt (Nat.div_le_self a d) ha)]
  first | rfl | exact (Int.natCast_ediv _ _).symm
theorem l_rem {x y : Int64} (a b c : Nat) (hx : x = lN a) (hy : y = lN b) (ha : a < 2 ^ 31) (h0 : 0 < b) (hb : b < 2 ^ 31) (h : a % b = c) : x - x / y * y = lN c := by
  rw [hx, hy, lN_div ha h0 hb, lN_mul, lN_sub (Nat.div_mul_le_self a b), ← h]
  exact congrArg lN (by have := Nat.div_add_mod' a b; omega)
/-- within, of longs -/
def wiL (v lo hi : Int64) : Int32 := if v < lo then 0 else if hi < v then 0 else 1
theorem wi_a {v lo hi : Int64} (h : v < lo) : 0 = wiL v lo hi := by unfold wiL; rw [if_pos h]
theorem wi_b {v lo hi : Int64} (h0 : ¬ v < lo) (h : hi < v) : 0 = wiL v lo hi := by unfold wiL; rw [if_neg h0, if_pos h]
theorem wi_c {v lo hi : Int64} (h0 : ¬ v < lo) (h : ¬ hi < v) : 1 = wiL v lo hi := by unfold wiL; rw [if_neg h0, if_neg h]
theorem wiN_1 {v x y : Int64} (a lo hi : Nat) (hv : v = lN a) (hx : x = lN lo) (hy : y = lN hi) (h1 : lo ≤ a) (h2 : a ≤ hi) (h3 : hi < 2 ^ 31) : wiL v x y = 1 := by
  subst hv; subst hx; subst hy
  exact (wi_c (by rw [lN_lt (by omega) (by omega)]; omega) (by rw [lN_lt (by omega) (by omega)]; omega)).symm
theorem wiN_0 {v x y : Int64} (a lo hi : Nat) (hv : v = lN a) (hx : x = lN lo) (hy : y = lN hi) (h1 : a < lo ∨ hi < a) (h2 : a < 2 ^ 31) (h3 : hi < 2 ^ 31) (h4 : lo < 2 ^ 31) : wiL v x y = 0 := by
  subst hv; subst hx; subst hy
  by_cases h : a < lo
  · exact (wi_a (by rw [lN_lt (by omega) (by omega)]; omega)).symm
  · exact (wi_b (by rw [lN_lt (by omega) (by omega)]; omega) (by rw [lN_lt (by omega) (by omega)]; omega)).symm
theorem l_lt (x y : Int32) : x.toInt64 < y.toInt64 ↔ x < y := by rw [Int64.lt_iff_toInt_lt, Int32.lt_iff_toInt_lt, Int32.toInt_toInt64, Int32.toInt_toInt64]
theorem wiP {n lo hi : Int32} {v x y : Int64} (hv : v = n.toInt64) (hx : x = lo.toInt64) (hy : y = hi.toInt64) (h : ¬ n < lo ∧ ¬ hi < n) : wiL v x y = 1 := by
  subst hv; subst hx; subst hy
  exact (wi_c (by rw [l_lt]; exact h.1) (by rw [l_lt]; exact h.2)).symm
theorem wiQ {n lo hi : Int32} {v x y : Int64} (hv : v = n.toInt64) (hx : x = lo.toInt64) (hy : y = hi.toInt64) (h : ¬ (¬ n < lo ∧ ¬ hi < n)) : wiL v x y = 0 := by
  subst hv; subst hx; subst hy
  by_cases h1 : n < lo
  · exact (wi_a (by rw [l_lt]; exact h1)).symm
  · exact (wi_b (by rw [l_lt]; exact h1) (by rw [l_lt]; exact Classical.byContradiction fun h2 => h ⟨h1, h2⟩)).symm
theorem wiE (v : Int64) : wiL v 0 (-1) = 0 := by
  by_cases h1 : v < 0
  · exact (wi_a h1).symm
  · refine (wi_b h1 ?_).symm
    rw [Int64.lt_iff_toInt_lt] at h1 ⊢
    have e0 : (0 : Int64).toInt = 0 := by decide
    have e1 : (-1 : Int64).toInt = -1 := by decide
    omega
theorem bB_no {b : Int32} (h : ¬ bB b = 1) : ¬ (¬ b < 0 ∧ ¬ 999 < b) ∨ ∃ a : Nat, a < 1000 ∧ ¬ a % 100 = 0 ∧ b = nI a := by
  by_cases h1 : ¬ b < 0 ∧ ¬ 999 < b
  · obtain ⟨a, ha, rfl⟩ := nI_of h1.1
    have h2 := un_nlt 999 a rfl rfl (by omega) ha h1.2
    refine Or.inr ⟨a, by omega, fun h3 => h ?_, rfl⟩
    have h4 := bB_ok (j := a / 100) (by omega)
    rw [show 100 * (a / 100) = a by omega] at h4
    exact h4
  · exact Or.inl h1
/-- what a model's row of numbers has at its start -/
def knF : Nat → Int32 := upd (upd (fun _ => 0) 1 1) 7 (-1)
def KF (f : Nat → Int32) : Prop := f 1 = 1 ∧ f 2 = 0 ∧ f 8 = 0
theorem KF_0 : KF knF := ⟨rfl, rfl, rfl⟩
theorem KF_u {f : Nat → Int32} (h : KF f) {k : Nat} (x : Int32) (h1 : k ≠ 1) (h2 : k ≠ 2) (h8 : k ≠ 8) : KF (upd f k x) := ⟨by rw [pk_un (Ne.symm h1)]; exact h.1, by rw [pk_un (Ne.symm h2)]; exact h.2.1, by rw [pk_un (Ne.symm h8)]; exact h.2.2⟩
def tsF : Nat → Int32 := upd (upd (upd (upd (fun _ => 0) 0 (-1)) 1 (-1)) 2 (-1)) 3 (-1)
theorem tsF_v {t : Nat} (h : t < 4) : tsF t = -1 := by
  rcases (show t = 0 ∨ t = 1 ∨ t = 2 ∨ t = 3 by omega) with rfl | rfl | rfl | rfl <;> rfl
theorem up0 (k : Nat) : upd (fun _ => 0) k 0 = fun _ => 0 := funext fun j => by
  by_cases h : j = k
  · subst h; exact pk_us
  · exact pk_un h
set_option maxHeartbeats 4000000 in
set_option maxRecDepth 100000 in
theorem c_mwi (l : Launch) (D : va_G) (ty : Nat → ClassId) (v : Int64) (lo : Int64) (hi : Int64) : CC l D ty ⟨"PinchedBillModel", "within", "(JJJ)Z"⟩ prog_11_method_4_code 6 (some .boolean) 0 0 0 0 [.long v, .long lo, .long hi] [] (QI D ty (fun (r : Int32) (w : va_W) => (wiL v lo hi) = r ∧ w = [])) := by
  refine CC_of (by decide) ?_
  intro p e s m below meth c A C hP hD hS
  obtain ⟨⟨hx, hb, hml, hown, hts⟩, hr, hlocks, hnm, hK, hE, hA, hZ⟩ := id C
  refine startW [.long v, .long lo, .long hi] 6 (nle rfl) (lv := [(0, .long v), (2, .long lo), (4, .long hi)]) rfl (fun ls hl => ?_)
  refine lv_lload_n hx hb d_X9_within_0 rfl (lv_at hl 0 rfl) ?_
  refine lv_lload_n hx hb d_X9_within_1 rfl (lv_at hl 1 rfl) ?_
  refine W.lcmp hx hb d_X9_within_2 ?_
  refine lv_if_lt (tgt := 17) hx hb d_X9_within_3 (by decide) (fun hc_1 => ?_) (fun hc_1 => ?_)
  · refine lv_iconst (v := 0) hx hb d_X9_within_17 (by decide) ?_
    exact ret_Z (w := []) C rfl hP hD hS [] rfl rfl ⟨(Eq.symm (wi_a ((lg_cmp_lt _ _).mp hc_1))), rfl⟩ (by decide) (by decide) d_X9_within_18
  · refine lv_lload_n hx hb d_X9_within_6 rfl (lv_at hl 0 rfl) ?_
    refine lv_lload hx hb d_X9_within_7 (lv_at hl 2 rfl) ?_
    refine W.lcmp hx hb d_X9_within_9 ?_
    refine lv_if_gt (tgt := 17) hx hb d_X9_within_10 (by decide) (fun hc_2 => ?_) (fun hc_2 => ?_)
    · refine lv_iconst (v := 0) hx hb d_X9_within_17 (by decide) ?_
      exact ret_Z (w := []) C rfl hP hD hS [] rfl rfl ⟨(Eq.symm (wi_b (fun h9 => hc_1 ((lg_cmp_lt _ _).mpr h9)) ((lg_cmp_gt _ _).mp hc_2))), rfl⟩ (by decide) (by decide) d_X9_within_18
    · refine lv_iconst (v := 1) hx hb d_X9_within_13 (by decide) ?_
      refine lv_goto (tgt := 18) hx hb d_X9_within_14 (by decide) ?_
      exact ret_Z (w := []) C rfl hP hD hS [] rfl rfl ⟨(Eq.symm (wi_c (fun h9 => hc_1 ((lg_cmp_lt _ _).mpr h9)) (fun h9 => hc_2 ((lg_cmp_gt _ _).mpr h9)))), rfl⟩ (by decide) (by decide) d_X9_within_18
set_option maxHeartbeats 4000000 in
set_option maxRecDepth 100000 in
theorem c_msize0 (l : Launch) (D : va_G) (ty : Nat → ClassId) : CC l D ty ⟨"PinchedBillModel", "size", "(I)I"⟩ prog_11_method_6_code 3 (some .int) 0 0 0 0 [.int 0] [] (QI D ty (fun (r : Int32) (w : va_W) => 0 = r ∧ w = [])) := by
  refine CC_of (by decide) ?_
  intro p e s m below meth c A C hP hD hS
  obtain ⟨⟨hx, hb, hml, hown, hts⟩, hr, hlocks, hnm, hK, hE, hA, hZ⟩ := id C
  refine startW [.int 0] 3 (nle rfl) (lv := [(0, .int 0)]) rfl (fun ls hl => ?_)
  refine lv_iconst (v := 0) hx hb d_X9_size_0 (by decide) ?_
  refine lv_istore_n (lv' := [(1, .int 0), (0, .int 0)]) hx hb d_X9_size_1 rfl hl (by decide) rfl (fun ls hl => ?_)
  refine lv_iload_n hx hb d_X9_size_2 rfl (lv_at hl 1 rfl) ?_
  refine lv_istore_n (lv' := [(2, .int 0), (1, .int 0), (0, .int 0)]) hx hb d_X9_size_3 rfl hl (by decide) rfl (fun ls hl => ?_)
  refine lv_iload_n hx hb d_X9_size_4 rfl (lv_at hl 0 rfl) ?_
  refine b_if_eqT C 20 d_X9_size_5 (by decide) (by decide) ?_
  refine lv_iload_n hx hb d_X9_size_20 rfl (lv_at hl 1 rfl) ?_
  exact ret_I (w := []) C hP hD hS [] rfl rfl ⟨rfl, rfl⟩ (by decide) (by decide) d_X9_size_21
set_option maxHeartbeats 4000000 in
set_option maxRecDepth 100000 in
theorem c_mw0 (l : Launch) (D : va_G) (ty : Nat → ClassId) : CC l D ty ⟨"PinchedBillModel", "weight", "(I)I"⟩ prog_11_method_30_code 1 (some .int) 0 0 0 0 [.int 0] [] (QI D ty (fun (r : Int32) (w : va_W) => 100 = r ∧ w = [])) := by
  refine CC_of (by decide) ?_
  intro p e s m below meth c A C hP hD hS
  obtain ⟨⟨hx, hb, hml, hown, hts⟩, hr, hlocks, hnm, hK, hE, hA, hZ⟩ := id C
  refine startW [.int 0] 1 (nle rfl) (lv := [(0, .int 0)]) rfl (fun ls hl => ?_)
  refine lv_iload_n hx hb d_X9_weight_0 rfl (lv_at hl 0 rfl) ?_
  refine b_if_neF C 9 d_X9_weight_1 (by decide) (by decide) ?_
  refine lv_bipush (v := 100) hx hb d_X9_weight_4 (by decide) ?_
  refine lv_goto (tgt := 20) hx hb d_X9_weight_6 (by decide) ?_
  exact ret_I (w := []) C hP hD hS [] rfl rfl ⟨rfl, rfl⟩ (by decide) (by decide) d_X9_weight_20
set_option maxHeartbeats 4000000 in
set_option maxRecDepth 100000 in
theorem c_mw1 (l : Launch) (D : va_G) (ty : Nat → ClassId) : CC l D ty ⟨"PinchedBillModel", "weight", "(I)I"⟩ prog_11_method_30_code 1 (some .int) 0 0 0 0 [.int 1] [] (QI D ty (fun (r : Int32) (w : va_W) => 10 = r ∧ w = [])) := by
  refine CC_of (by decide) ?_
  intro p e s m below meth c A C hP hD hS
  obtain ⟨⟨hx, hb, hml, hown, hts⟩, hr, hlocks, hnm, hK, hE, hA, hZ⟩ := id C
  refine startW [.int 1] 1 (nle rfl) (lv := [(0, .int 1)]) rfl (fun ls hl => ?_)
  refine lv_iload_n hx hb d_X9_weight_0 rfl (lv_at hl 0 rfl) ?_
  refine b_if_neT C 9 d_X9_weight_1 (by decide) (by decide) ?_
  refine lv_iload_n hx hb d_X9_weight_9 rfl (lv_at hl 0 rfl) ?_
  refine lv_iconst (v := 1) hx hb d_X9_weight_10 (by decide) ?_
  refine b_icmp_neF C 19 d_X9_weight_11 (by decide) (by decide) ?_
  refine lv_bipush (v := 10) hx hb d_X9_weight_14 (by decide) ?_
  refine lv_goto (tgt := 20) hx hb d_X9_weight_16 (by decide) ?_
  exact ret_I (w := []) C hP hD hS [] rfl rfl ⟨rfl, rfl⟩ (by decide) (by decide) d_X9_weight_20
set_option maxHeartbeats 4000000 in
set_option maxRecDepth 100000 in
theorem c_mw2 (l : Launch) (D : va_G) (ty : Nat → ClassId) : CC l D ty ⟨"PinchedBillModel", "weight", "(I)I"⟩ prog_11_method_30_code 1 (some .int) 0 0 0 0 [.int 2] [] (QI D ty (fun (r : Int32) (w : va_W) => 1 = r ∧ w = [])) := by
  refine CC_of (by decide) ?_
  intro p e s m below meth c A C hP hD hS
  obtain ⟨⟨hx, hb, hml, hown, hts⟩, hr, hlocks, hnm, hK, hE, hA, hZ⟩ := id C
  refine startW [.int 2] 1 (nle rfl) (lv := [(0, .int 2)]) rfl (fun ls hl => ?_)
  refine lv_iload_n hx hb d_X9_weight_0 rfl (lv_at hl 0 rfl) ?_
  refine b_if_neT C 9 d_X9_weight_1 (by decide) (by decide) ?_
  refine lv_iload_n hx hb d_X9_weight_9 rfl (lv_at hl 0 rfl) ?_
  refine lv_iconst (v := 1) hx hb d_X9_weight_10 (by decide) ?_
  refine b_icmp_neT C 19 d_X9_weight_11 (by decide) (by decide) ?_
  refine lv_iconst (v := 1) hx hb d_X9_weight_19 (by decide) ?_
  exact ret_I (w := []) C hP hD hS [] rfl rfl ⟨rfl, rfl⟩ (by decide) (by decide) d_X9_weight_20
set_option maxHeartbeats 4000000 in
set_option maxRecDepth 100000 in
theorem c_mpeople (l : Launch) (D : va_G) (ty : Nat → ClassId) (h0 : Nat) (k0 : Nat) (k1 : Nat) (k2 : Nat) (k3 : Nat) (k5 : Nat) (k19 : Nat) (k20 : Nat) (k21 : Nat) (k22 : Nat) (k23 : Nat) (k25 : Nat) (k26 : Nat) (k27 : Nat) (k30 : Nat) (k31 : Nat) (k33 : Nat) (k36 : Nat) (k37 : Nat) (k38 : Nat) (k39 : Nat) (u4 : Value) (u6 : Value) (u7 : Value) (u8 : Value) (u9 : Value) (u10 : Value) (u11 : Value) (u12 : Value) (u13 : Value) (u14 : Value) (u15 : Value) (u16 : Value) (u17 : Value) (u18 : Value) (u24 : Value) (u28 : Value) (u29 : Value) (u32 : Value) (u34 : Value) (u35 : Value) (kf : Nat → Int32) (hkf : KF kf) : CC l D ty ⟨"PinchedBillModel", "people", "()I"⟩ prog_11_method_37_code 1 (some .int) 0 0 0 0 [.ref h0] [(h0, eO 9 [.ref k0, .ref k1, .ref k2, .ref k3, u4, .ref k5, u6, u7, u8, u9, u10, u11, u12, u13, u14, u15, u16, u17, u18, .ref k19, .ref k20, .ref k21, .ref k22, .ref k23, u24, .ref k25, .ref k26, .ref k27, u28, u29, .ref k30, .ref k31, u32, .ref k33, u34, u35, .ref k36, .ref k37, .ref k38, .ref k39]), (k0, eI (ty 0) 1875 kf)] (QI D ty (fun (r : Int32) (w : va_W) => 0 = r ∧ w = [(h0, eO 9 [.ref k0, .ref k1, .ref k2, .ref k3, u4, .ref k5, u6, u7, u8, u9, u10, u11, u12, u13, u14, u15, u16, u17, u18, .ref k19, .ref k20, .ref k21, .ref k22, .ref k23, u24, .ref k25, .ref k26, .ref k27, u28, u29, .ref k30, .ref k31, u32, .ref k33, u34, u35, .ref k36, .ref k37, .ref k38, .ref k39]), (k0, eI (ty 0) 1875 kf)])) := by
  refine CC_of (by decide) ?_
  intro p e s m below meth c A C hP hD hS
  obtain ⟨⟨hx, hb, hml, hown, hts⟩, hr, hlocks, hnm, hK, hE, hA, hZ⟩ := id C
  refine startW [.ref h0] 1 (nle rfl) (lv := [(0, .ref h0)]) rfl (fun ls hl => ?_)
  refine lv_aload_n hx hb d_X9_people_0 rfl (lv_at hl 0 rfl) ?_
  refine r_get (v := .ref k0) C hP 0 rfl rfl lay_X9 0 (by decide) k_1545 rfl d_X9_people_1 ?_
  refine lv_iconst (v := 2) hx hb d_X9_people_4 (by decide) ?_
  refine r_iald (v := 0) C hP 1 rfl 2 rfl (by decide) (by decide) hkf.2.1 d_X9_people_5 ?_
  exact ret_I (w := [(h0, eO 9 [.ref k0, .ref k1, .ref k2, .ref k3, u4, .ref k5, u6, u7, u8, u9, u10, u11, u12, u13, u14, u15, u16, u17, u18, .ref k19, .ref k20, .ref k21, .ref k22, .ref k23, u24, .ref k25, .ref k26, .ref k27, u28, u29, .ref k30, .ref k31, u32, .ref k33, u34, u35, .ref k36, .ref k37, .ref k38, .ref k39]), (k0, eI (ty 0) 1875 kf)]) C hP hD hS [0, 1] rfl rfl ⟨rfl, rfl⟩ (by decide) (by decide) d_X9_people_6
set_option maxHeartbeats 4000000 in
set_option maxRecDepth 100000 in
theorem c_misP (l : Launch) (D : va_G) (ty : Nat → ClassId) (h0 : Nat) (k0 : Nat) (k1 : Nat) (k2 : Nat) (k3 : Nat) (k5 : Nat) (k19 : Nat) (k20 : Nat) (k21 : Nat) (k22 : Nat) (k23 : Nat) (k25 : Nat) (k26 : Nat) (k27 : Nat) (k30 : Nat) (k31 : Nat) (k33 : Nat) (k36 : Nat) (k37 : Nat) (k38 : Nat) (k39 : Nat) (u4 : Value) (u6 : Value) (u7 : Value) (u8 : Value) (u9 : Value) (u10 : Value) (u11 : Value) (u12 : Value) (u13 : Value) (u14 : Value) (u15 : Value) (u16 : Value) (u17 : Value) (u18 : Value) (u24 : Value) (u28 : Value) (u29 : Value) (u32 : Value) (u34 : Value) (u35 : Value) (kf : Nat → Int32) (v : Int64) (hkf : KF kf) : CC l D ty ⟨"PinchedBillModel", "isPerson", "(J)Z"⟩ prog_11_method_38_code 3 (some .boolean) 1 25 0 0 [.ref h0, .long v] [(h0, eO 9 [.ref k0, .ref k1, .ref k2, .ref k3, u4, .ref k5, u6, u7, u8, u9, u10, u11, u12, u13, u14, u15, u16, u17, u18, .ref k19, .ref k20, .ref k21, .ref k22, .ref k23, u24, .ref k25, .ref k26, .ref k27, u28, u29, .ref k30, .ref k31, u32, .ref k33, u34, u35, .ref k36, .ref k37, .ref k38, .ref k39]), (k0, eI (ty 0) 1875 kf)] (QI D ty (fun (r : Int32) (w : va_W) => 0 = r ∧ w = [(h0, eO 9 [.ref k0, .ref k1, .ref k2, .ref k3, u4, .ref k5, u6, u7, u8, u9, u10, u11, u12, u13, u14, u15, u16, u17, u18, .ref k19, .ref k20, .ref k21, .ref k22, .ref k23, u24, .ref k25, .ref k26, .ref k27, u28, u29, .ref k30, .ref k31, u32, .ref k33, u34, u35, .ref k36, .ref k37, .ref k38, .ref k39]), (k0, eI (ty 0) 1875 kf)])) := by
  refine CC_of (by decide) ?_
  intro p e s m below meth c A C hP hD hS
  obtain ⟨⟨hx, hb, hml, hown, hts⟩, hr, hlocks, hnm, hK, hE, hA, hZ⟩ := id C
  refine startW [.ref h0, .long v] 3 (nle rfl) (lv := [(0, .ref h0), (1, .long v)]) rfl (fun ls hl => ?_)
  refine lv_lload_n hx hb d_X9_isPerson_0 rfl (lv_at hl 1 rfl) ?_
  refine lv_lconst (v := 0) hx hb d_X9_isPerson_1 (by decide) ?_
  refine lv_aload_n hx hb d_X9_isPerson_2 rfl (lv_at hl 0 rfl) ?_
  have ct_1 : Cut [(h0, eO 9 [.ref k0, .ref k1, .ref k2, .ref k3, u4, .ref k5, u6, u7, u8, u9, u10, u11, u12, u13, u14, u15, u16, u17, u18, .ref k19, .ref k20, .ref k21, .ref k22, .ref k23, u24, .ref k25, .ref k26, .ref k27, u28, u29, .ref k30, .ref k31, u32, .ref k33, u34, u35, .ref k36, .ref k37, .ref k38, .ref k39]), (k0, eI (ty 0) 1875 kf)] [(h0, eO 9 [.ref k0, .ref k1, .ref k2, .ref k3, u4, .ref k5, u6, u7, u8, u9, u10, u11, u12, u13, u14, u15, u16, u17, u18, .ref k19, .ref k20, .ref k21, .ref k22, .ref k23, u24, .ref k25, .ref k26, .ref k27, u28, u29, .ref k30, .ref k31, u32, .ref k33, u34, u35, .ref k36, .ref k37, .ref k38, .ref k39]), (k0, eI (ty 0) 1875 kf)] [] [0, 1] [] := ⟨rfl, rfl, rfl, rfl, by decide⟩
  refine cont_I C hP hD hS ct_1 (run_V (As := []) (rest := [.long 0, .long v]) C hP hD hS ct_1 (c_mpeople l D ty h0 k0 k1 k2 k3 k5 k19 k20 k21 k22 k23 k25 k26 k27 k30 k31 k33 k36 k37 k38 k39 u4 u6 u7 u8 u9 u10 u11 u12 u13 u14 u15 u16 u17 u18 u24 u28 u29 u32 u34 u35 kf hkf) kV_PinchedBillModel_259 0 rfl rfl rfl rfl hl.1 rfl (nle rfl) d_X9_isPerson_3 ⟨by decide, by decide, by decide, by decide⟩) (fun r_3 w_4 H locs hw_2 hP hD hS => ?_)
  obtain ⟨rfl, rfl⟩ := hw_2
  have hP : va_P D vwCl [(h0, eO 9 [.ref k0, .ref k1, .ref k2, .ref k3, u4, .ref k5, u6, u7, u8, u9, u10, u11, u12, u13, u14, u15, u16, u17, u18, .ref k19, .ref k20, .ref k21, .ref k22, .ref k23, u24, .ref k25, .ref k26, .ref k27, u28, u29, .ref k30, .ref k31, u32, .ref k33, u34, u35, .ref k36, .ref k37, .ref k38, .ref k39]), (k0, eI (ty 0) 1875 kf)] H := hP
  have hD : va_D A [(h0, eO 9 [.ref k0, .ref k1, .ref k2, .ref k3, u4, .ref k5, u6, u7, u8, u9, u10, u11, u12, u13, u14, u15, u16, u17, u18, .ref k19, .ref k20, .ref k21, .ref k22, .ref k23, u24, .ref k25, .ref k26, .ref k27, u28, u29, .ref k30, .ref k31, u32, .ref k33, u34, u35, .ref k36, .ref k37, .ref k38, .ref k39]), (k0, eI (ty 0) 1875 kf)] := hD
  refine lv_iconst (v := 1) hx hb d_X9_isPerson_6 (by decide) ?_
  refine r_isub (z := (-1)) C d_X9_isPerson_7 (by decide) ?_
  refine lv_i2l (v := (-1)) hx hb d_X9_isPerson_8 (by decide) ?_
  have ct_5 : Cut [(h0, eO 9 [.ref k0, .ref k1, .ref k2, .ref k3, u4, .ref k5, u6, u7, u8, u9, u10, u11, u12, u13, u14, u15, u16, u17, u18, .ref k19, .ref k20, .ref k21, .ref k22, .ref k23, u24, .ref k25, .ref k26, .ref k27, u28, u29, .ref k30, .ref k31, u32, .ref k33, u34, u35, .ref k36, .ref k37, .ref k38, .ref k39]), (k0, eI (ty 0) 1875 kf)] [] [(h0, eO 9 [.ref k0, .ref k1, .ref k2, .ref k3, u4, .ref k5, u6, u7, u8, u9, u10, u11, u12, u13, u14, u15, u16, u17, u18, .ref k19, .ref k20, .ref k21, .ref k22, .ref k23, u24, .ref k25, .ref k26, .ref k27, u28, u29, .ref k30, .ref k31, u32, .ref k33, u34, u35, .ref k36, .ref k37, .ref k38, .ref k39]), (k0, eI (ty 0) 1875 kf)] [] [0, 1] := ⟨rfl, rfl, rfl, rfl, by decide⟩
  refine cont_I C hP hD hS ct_5 (run_S (As := [.long v, .long 0, .long (-1)]) (rest := []) C hP hD hS ct_5 (c_mwi l D ty v 0 (-1)) kS_PinchedBillModel_140 rfl hl.1 rfl (nle rfl) d_X9_isPerson_9 ⟨by decide, by decide, by decide, by decide⟩) (fun r_7 w_8 H locs hw_6 hP hD hS => ?_)
  obtain ⟨rfl, rfl⟩ := hw_6
  have hP : va_P D vwCl [(h0, eO 9 [.ref k0, .ref k1, .ref k2, .ref k3, u4, .ref k5, u6, u7, u8, u9, u10, u11, u12, u13, u14, u15, u16, u17, u18, .ref k19, .ref k20, .ref k21, .ref k22, .ref k23, u24, .ref k25, .ref k26, .ref k27, u28, u29, .ref k30, .ref k31, u32, .ref k33, u34, u35, .ref k36, .ref k37, .ref k38, .ref k39]), (k0, eI (ty 0) 1875 kf)] H := hP
  have hD : va_D A [(h0, eO 9 [.ref k0, .ref k1, .ref k2, .ref k3, u4, .ref k5, u6, u7, u8, u9, u10, u11, u12, u13, u14, u15, u16, u17, u18, .ref k19, .ref k20, .ref k21, .ref k22, .ref k23, u24, .ref k25, .ref k26, .ref k27, u28, u29, .ref k30, .ref k31, u32, .ref k33, u34, u35, .ref k36, .ref k37, .ref k38, .ref k39]), (k0, eI (ty 0) 1875 kf)] := hD
  refine topeq (z := 0) (wiE _) ?_
  exact ret_Z (w := [(h0, eO 9 [.ref k0, .ref k1, .ref k2, .ref k3, u4, .ref k5, u6, u7, u8, u9, u10, u11, u12, u13, u14, u15, u16, u17, u18, .ref k19, .ref k20, .ref k21, .ref k22, .ref k23, u24, .ref k25, .ref k26, .ref k27, u28, u29, .ref k30, .ref k31, u32, .ref k33, u34, u35, .ref k36, .ref k37, .ref k38, .ref k39]), (k0, eI (ty 0) 1875 kf)]) C rfl hP hD hS [0, 1] rfl rfl ⟨rfl, rfl⟩ (by decide) (by decide) d_X9_isPerson_12
set_option maxHeartbeats 4000000 in
set_option maxRecDepth 100000 in
theorem c_mfine (l : Launch) (D : va_G) (ty : Nat → ClassId) (h0 : Nat) (k0 : Nat) (k1 : Nat) (k2 : Nat) (k3 : Nat) (k5 : Nat) (k19 : Nat) (k20 : Nat) (k21 : Nat) (k22 : Nat) (k23 : Nat) (k25 : Nat) (k26 : Nat) (k27 : Nat) (k30 : Nat) (k31 : Nat) (k33 : Nat) (k36 : Nat) (k37 : Nat) (k38 : Nat) (k39 : Nat) (u4 : Value) (u6 : Value) (u7 : Value) (u8 : Value) (u9 : Value) (u10 : Value) (u11 : Value) (u12 : Value) (u13 : Value) (u14 : Value) (u15 : Value) (u16 : Value) (u17 : Value) (u18 : Value) (u24 : Value) (u28 : Value) (u29 : Value) (u32 : Value) (u34 : Value) (u35 : Value) (kf : Nat → Int32) (hkf : KF kf) : CC l D ty ⟨"PinchedBillModel", "finest", "()I"⟩ prog_11_method_39_code 1 (some .int) 1 20 0 0 [.ref h0] [(h0, eO 9 [.ref k0, .ref k1, .ref k2, .ref k3, u4, .ref k5, u6, u7, u8, u9, u10, u11, u12, u13, u14, u15, u16, u17, u18, .ref k19, .ref k20, .ref k21, .ref k22, .ref k23, u24, .ref k25, .ref k26, .ref k27, u28, u29, .ref k30, .ref k31, u32, .ref k33, u34, u35, .ref k36, .ref k37, .ref k38, .ref k39]), (k0, eI (ty 0) 1875 kf)] (QI D ty (fun (r : Int32) (w : va_W) => 100 = r ∧ w = [(h0, eO 9 [.ref k0, .ref k1, .ref k2, .ref k3, u4, .ref k5, u6, u7, u8, u9, u10, u11, u12, u13, u14, u15, u16, u17, u18, .ref k19, .ref k20, .ref k21, .ref k22, .ref k23, u24, .ref k25, .ref k26, .ref k27, u28, u29, .ref k30, .ref k31, u32, .ref k33, u34, u35, .ref k36, .ref k37, .ref k38, .ref k39]), (k0, eI (ty 0) 1875 kf)])) := by
  refine CC_of (by decide) ?_
  intro p e s m below meth c A C hP hD hS
  obtain ⟨⟨hx, hb, hml, hown, hts⟩, hr, hlocks, hnm, hK, hE, hA, hZ⟩ := id C
  refine startW [.ref h0] 1 (nle rfl) (lv := [(0, .ref h0)]) rfl (fun ls hl => ?_)
  refine lv_aload_n hx hb d_X9_finest_0 rfl (lv_at hl 0 rfl) ?_
  refine r_get (v := .ref k0) C hP 0 rfl rfl lay_X9 0 (by decide) k_1545 rfl d_X9_finest_1 ?_
  refine lv_iconst (v := 1) hx hb d_X9_finest_4 (by decide) ?_
  refine r_iald (v := 1) C hP 1 rfl 1 rfl (by decide) (by decide) hkf.1 d_X9_finest_5 ?_
  refine lv_iconst (v := 1) hx hb d_X9_finest_6 (by decide) ?_
  refine r_isub (z := 0) C d_X9_finest_7 (by decide) ?_
  have ct_1 : Cut [(h0, eO 9 [.ref k0, .ref k1, .ref k2, .ref k3, u4, .ref k5, u6, u7, u8, u9, u10, u11, u12, u13, u14, u15, u16, u17, u18, .ref k19, .ref k20, .ref k21, .ref k22, .ref k23, u24, .ref k25, .ref k26, .ref k27, u28, u29, .ref k30, .ref k31, u32, .ref k33, u34, u35, .ref k36, .ref k37, .ref k38, .ref k39]), (k0, eI (ty 0) 1875 kf)] [] [(h0, eO 9 [.ref k0, .ref k1, .ref k2, .ref k3, u4, .ref k5, u6, u7, u8, u9, u10, u11, u12, u13, u14, u15, u16, u17, u18, .ref k19, .ref k20, .ref k21, .ref k22, .ref k23, u24, .ref k25, .ref k26, .ref k27, u28, u29, .ref k30, .ref k31, u32, .ref k33, u34, u35, .ref k36, .ref k37, .ref k38, .ref k39]), (k0, eI (ty 0) 1875 kf)] [] [0, 1] := ⟨rfl, rfl, rfl, rfl, by decide⟩
  refine cont_I C hP hD hS ct_1 (run_S (As := [.int 0]) (rest := []) C hP hD hS ct_1 (c_mw0 l D ty) kS_PinchedBillModel_218 rfl hl.1 rfl (nle rfl) d_X9_finest_8 ⟨by decide, by decide, by decide, by decide⟩) (fun r_3 w_4 H locs hw_2 hP hD hS => ?_)
  obtain ⟨rfl, rfl⟩ := hw_2
  have hP : va_P D vwCl [(h0, eO 9 [.ref k0, .ref k1, .ref k2, .ref k3, u4, .ref k5, u6, u7, u8, u9, u10, u11, u12, u13, u14, u15, u16, u17, u18, .ref k19, .ref k20, .ref k21, .ref k22, .ref k23, u24, .ref k25, .ref k26, .ref k27, u28, u29, .ref k30, .ref k31, u32, .ref k33, u34, u35, .ref k36, .ref k37, .ref k38, .ref k39]), (k0, eI (ty 0) 1875 kf)] H := hP
  have hD : va_D A [(h0, eO 9 [.ref k0, .ref k1, .ref k2, .ref k3, u4, .ref k5, u6, u7, u8, u9, u10, u11, u12, u13, u14, u15, u16, u17, u18, .ref k19, .ref k20, .ref k21, .ref k22, .ref k23, u24, .ref k25, .ref k26, .ref k27, u28, u29, .ref k30, .ref k31, u32, .ref k33, u34, u35, .ref k36, .ref k37, .ref k38, .ref k39]), (k0, eI (ty 0) 1875 kf)] := hD
  exact ret_I (w := [(h0, eO 9 [.ref k0, .ref k1, .ref k2, .ref k3, u4, .ref k5, u6, u7, u8, u9, u10, u11, u12, u13, u14, u15, u16, u17, u18, .ref k19, .ref k20, .ref k21, .ref k22, .ref k23, u24, .ref k25, .ref k26, .ref k27, u28, u29, .ref k30, .ref k31, u32, .ref k33, u34, u35, .ref k36, .ref k37, .ref k38, .ref k39]), (k0, eI (ty 0) 1875 kf)]) C hP hD hS [0, 1] rfl rfl ⟨rfl, rfl⟩ (by decide) (by decide) d_X9_finest_11
set_option maxHeartbeats 4000000 in
set_option maxRecDepth 100000 in
theorem c_mbillT (l : Launch) (D : va_G) (ty : Nat → ClassId) (h0 : Nat) (k0 : Nat) (k1 : Nat) (k2 : Nat) (k3 : Nat) (k5 : Nat) (k19 : Nat) (k20 : Nat) (k21 : Nat) (k22 : Nat) (k23 : Nat) (k25 : Nat) (k26 : Nat) (k27 : Nat) (k30 : Nat) (k31 : Nat) (k33 : Nat) (k36 : Nat) (k37 : Nat) (k38 : Nat) (k39 : Nat) (u4 : Value) (u6 : Value) (u7 : Value) (u8 : Value) (u9 : Value) (u10 : Value) (u11 : Value) (u12 : Value) (u13 : Value) (u14 : Value) (u15 : Value) (u16 : Value) (u17 : Value) (u18 : Value) (u24 : Value) (u28 : Value) (u29 : Value) (u32 : Value) (u34 : Value) (u35 : Value) (kf : Nat → Int32) (jb : Nat) (hkf : KF kf) (hjb : jb < 10) : CC l D ty ⟨"PinchedBillModel", "isBill", "(J)Z"⟩ prog_11_method_40_code 3 (some .boolean) 2 40 0 0 [.ref h0, .long (lN (100 * jb))] [(h0, eO 9 [.ref k0, .ref k1, .ref k2, .ref k3, u4, .ref k5, u6, u7, u8, u9, u10, u11, u12, u13, u14, u15, u16, u17, u18, .ref k19, .ref k20, .ref k21, .ref k22, .ref k23, u24, .ref k25, .ref k26, .ref k27, u28, u29, .ref k30, .ref k31, u32, .ref k33, u34, u35, .ref k36, .ref k37, .ref k38, .ref k39]), (k0, eI (ty 0) 1875 kf)] (QI D ty (fun (r : Int32) (w : va_W) => 1 = r ∧ w = [(h0, eO 9 [.ref k0, .ref k1, .ref k2, .ref k3, u4, .ref k5, u6, u7, u8, u9, u10, u11, u12, u13, u14, u15, u16, u17, u18, .ref k19, .ref k20, .ref k21, .ref k22, .ref k23, u24, .ref k25, .ref k26, .ref k27, u28, u29, .ref k30, .ref k31, u32, .ref k33, u34, u35, .ref k36, .ref k37, .ref k38, .ref k39]), (k0, eI (ty 0) 1875 kf)])) := by
  refine CC_of (by decide) ?_
  intro p e s m below meth c A C hP hD hS
  obtain ⟨⟨hx, hb, hml, hown, hts⟩, hr, hlocks, hnm, hK, hE, hA, hZ⟩ := id C
  refine startW [.ref h0, .long (lN (100 * jb))] 3 (nle rfl) (lv := [(0, .ref h0), (1, .long (lN (100 * jb)))]) rfl (fun ls hl => ?_)
  refine lv_lload_n hx hb d_X9_isBill_0 rfl (lv_at hl 1 rfl) ?_
  refine lv_lconst (v := 0) hx hb d_X9_isBill_1 (by decide) ?_
  refine lv_ldc2 hx hb hown (hts _ k_1852) d_X9_isBill_2 ?_
  have ct_1 : Cut [(h0, eO 9 [.ref k0, .ref k1, .ref k2, .ref k3, u4, .ref k5, u6, u7, u8, u9, u10, u11, u12, u13, u14, u15, u16, u17, u18, .ref k19, .ref k20, .ref k21, .ref k22, .ref k23, u24, .ref k25, .ref k26, .ref k27, u28, u29, .ref k30, .ref k31, u32, .ref k33, u34, u35, .ref k36, .ref k37, .ref k38, .ref k39]), (k0, eI (ty 0) 1875 kf)] [] [(h0, eO 9 [.ref k0, .ref k1, .ref k2, .ref k3, u4, .ref k5, u6, u7, u8, u9, u10, u11, u12, u13, u14, u15, u16, u17, u18, .ref k19, .ref k20, .ref k21, .ref k22, .ref k23, u24, .ref k25, .ref k26, .ref k27, u28, u29, .ref k30, .ref k31, u32, .ref k33, u34, u35, .ref k36, .ref k37, .ref k38, .ref k39]), (k0, eI (ty 0) 1875 kf)] [] [0, 1] := ⟨rfl, rfl, rfl, rfl, by decide⟩
  refine cont_I C hP hD hS ct_1 (run_S (As := [.long (lN (100 * jb)), .long 0, .long 999]) (rest := []) C hP hD hS ct_1 (c_mwi l D ty (lN (100 * jb)) 0 999) kS_PinchedBillModel_140 rfl hl.1 rfl (nle rfl) d_X9_isBill_5 ⟨by decide, by decide, by decide, by decide⟩) (fun r_3 w_4 H locs hw_2 hP hD hS => ?_)
  obtain ⟨rfl, rfl⟩ := hw_2
  have hP : va_P D vwCl [(h0, eO 9 [.ref k0, .ref k1, .ref k2, .ref k3, u4, .ref k5, u6, u7, u8, u9, u10, u11, u12, u13, u14, u15, u16, u17, u18, .ref k19, .ref k20, .ref k21, .ref k22, .ref k23, u24, .ref k25, .ref k26, .ref k27, u28, u29, .ref k30, .ref k31, u32, .ref k33, u34, u35, .ref k36, .ref k37, .ref k38, .ref k39]), (k0, eI (ty 0) 1875 kf)] H := hP
  have hD : va_D A [(h0, eO 9 [.ref k0, .ref k1, .ref k2, .ref k3, u4, .ref k5, u6, u7, u8, u9, u10, u11, u12, u13, u14, u15, u16, u17, u18, .ref k19, .ref k20, .ref k21, .ref k22, .ref k23, u24, .ref k25, .ref k26, .ref k27, u28, u29, .ref k30, .ref k31, u32, .ref k33, u34, u35, .ref k36, .ref k37, .ref k38, .ref k39]), (k0, eI (ty 0) 1875 kf)] := hD
  refine topeq (z := 1) (wiN_1 ((100 * jb)) 0 999 rfl rfl rfl (by omega) (by omega) (by omega)) ?_
  refine b_if_eqF C 27 d_X9_isBill_8 (by decide) (by decide) ?_
  refine lv_lload_n hx hb d_X9_isBill_11 rfl (lv_at hl 1 rfl) ?_
  refine lv_aload_n hx hb d_X9_isBill_12 rfl (lv_at hl 0 rfl) ?_
  have ct_5 : Cut [(h0, eO 9 [.ref k0, .ref k1, .ref k2, .ref k3, u4, .ref k5, u6, u7, u8, u9, u10, u11, u12, u13, u14, u15, u16, u17, u18, .ref k19, .ref k20, .ref k21, .ref k22, .ref k23, u24, .ref k25, .ref k26, .ref k27, u28, u29, .ref k30, .ref k31, u32, .ref k33, u34, u35, .ref k36, .ref k37, .ref k38, .ref k39]), (k0, eI (ty 0) 1875 kf)] [(h0, eO 9 [.ref k0, .ref k1, .ref k2, .ref k3, u4, .ref k5, u6, u7, u8, u9, u10, u11, u12, u13, u14, u15, u16, u17, u18, .ref k19, .ref k20, .ref k21, .ref k22, .ref k23, u24, .ref k25, .ref k26, .ref k27, u28, u29, .ref k30, .ref k31, u32, .ref k33, u34, u35, .ref k36, .ref k37, .ref k38, .ref k39]), (k0, eI (ty 0) 1875 kf)] [] [0, 1] [] := ⟨rfl, rfl, rfl, rfl, by decide⟩
  refine cont_I C hP hD hS ct_5 (run_V (As := []) (rest := [.long (lN (100 * jb))]) C hP hD hS ct_5 (c_mfine l D ty h0 k0 k1 k2 k3 k5 k19 k20 k21 k22 k23 k25 k26 k27 k30 k31 k33 k36 k37 k38 k39 u4 u6 u7 u8 u9 u10 u11 u12 u13 u14 u15 u16 u17 u18 u24 u28 u29 u32 u34 u35 kf hkf) kV_PinchedBillModel_264 0 rfl rfl rfl rfl hl.1 rfl (nle rfl) d_X9_isBill_13 ⟨by decide, by decide, by decide, by decide⟩) (fun r_7 w_8 H locs hw_6 hP hD hS => ?_)
  obtain ⟨rfl, rfl⟩ := hw_6
  have hP : va_P D vwCl [(h0, eO 9 [.ref k0, .ref k1, .ref k2, .ref k3, u4, .ref k5, u6, u7, u8, u9, u10, u11, u12, u13, u14, u15, u16, u17, u18, .ref k19, .ref k20, .ref k21, .ref k22, .ref k23, u24, .ref k25, .ref k26, .ref k27, u28, u29, .ref k30, .ref k31, u32, .ref k33, u34, u35, .ref k36, .ref k37, .ref k38, .ref k39]), (k0, eI (ty 0) 1875 kf)] H := hP
  have hD : va_D A [(h0, eO 9 [.ref k0, .ref k1, .ref k2, .ref k3, u4, .ref k5, u6, u7, u8, u9, u10, u11, u12, u13, u14, u15, u16, u17, u18, .ref k19, .ref k20, .ref k21, .ref k22, .ref k23, u24, .ref k25, .ref k26, .ref k27, u28, u29, .ref k30, .ref k31, u32, .ref k33, u34, u35, .ref k36, .ref k37, .ref k38, .ref k39]), (k0, eI (ty 0) 1875 kf)] := hD
  refine lv_i2l (v := 100) hx hb d_X9_isBill_16 (by decide) ?_
  refine r_lrem (z := (lN ((100 * jb) % 100))) C d_X9_isBill_17 (by decide) (l_rem (100 * jb) 100 ((100 * jb) % 100) rfl rfl (by omega) (by omega) (by omega) rfl) ?_
  refine lv_lconst (v := 0) hx hb d_X9_isBill_18 (by decide) ?_
  refine W.lcmp hx hb d_X9_isBill_19 (topeq (z := 0) (lc_eq ((100 * jb) % 100) 0 rfl rfl (by omega) (by omega) (by omega)) ?_)
  refine b_if_neF C 27 d_X9_isBill_20 (by decide) (by decide) ?_
  refine lv_iconst (v := 1) hx hb d_X9_isBill_23 (by decide) ?_
  refine lv_goto (tgt := 28) hx hb d_X9_isBill_24 (by decide) ?_
  exact ret_Z (w := [(h0, eO 9 [.ref k0, .ref k1, .ref k2, .ref k3, u4, .ref k5, u6, u7, u8, u9, u10, u11, u12, u13, u14, u15, u16, u17, u18, .ref k19, .ref k20, .ref k21, .ref k22, .ref k23, u24, .ref k25, .ref k26, .ref k27, u28, u29, .ref k30, .ref k31, u32, .ref k33, u34, u35, .ref k36, .ref k37, .ref k38, .ref k39]), (k0, eI (ty 0) 1875 kf)]) C rfl hP hD hS [0, 1] rfl rfl ⟨rfl, rfl⟩ (by decide) (by decide) d_X9_isBill_28
set_option maxHeartbeats 4000000 in
set_option maxRecDepth 100000 in
theorem c_mbillF (l : Launch) (D : va_G) (ty : Nat → ClassId) (h0 : Nat) (k0 : Nat) (k1 : Nat) (k2 : Nat) (k3 : Nat) (k5 : Nat) (k19 : Nat) (k20 : Nat) (k21 : Nat) (k22 : Nat) (k23 : Nat) (k25 : Nat) (k26 : Nat) (k27 : Nat) (k30 : Nat) (k31 : Nat) (k33 : Nat) (k36 : Nat) (k37 : Nat) (k38 : Nat) (k39 : Nat) (u4 : Value) (u6 : Value) (u7 : Value) (u8 : Value) (u9 : Value) (u10 : Value) (u11 : Value) (u12 : Value) (u13 : Value) (u14 : Value) (u15 : Value) (u16 : Value) (u17 : Value) (u18 : Value) (u24 : Value) (u28 : Value) (u29 : Value) (u32 : Value) (u34 : Value) (u35 : Value) (kf : Nat → Int32) (b : Int32) (hkf : KF kf) (hnb : ¬ bB b = 1) : CC l D ty ⟨"PinchedBillModel", "isBill", "(J)Z"⟩ prog_11_method_40_code 3 (some .boolean) 2 40 0 0 [.ref h0, .long (b).toInt64] [(h0, eO 9 [.ref k0, .ref k1, .ref k2, .ref k3, u4, .ref k5, u6, u7, u8, u9, u10, u11, u12, u13, u14, u15, u16, u17, u18, .ref k19, .ref k20, .ref k21, .ref k22, .ref k23, u24, .ref k25, .ref k26, .ref k27, u28, u29, .ref k30, .ref k31, u32, .ref k33, u34, u35, .ref k36, .ref k37, .ref k38, .ref k39]), (k0, eI (ty 0) 1875 kf)] (QI D ty (fun (r : Int32) (w : va_W) => 0 = r ∧ w = [(h0, eO 9 [.ref k0, .ref k1, .ref k2, .ref k3, u4, .ref k5, u6, u7, u8, u9, u10, u11, u12, u13, u14, u15, u16, u17, u18, .ref k19, .ref k20, .ref k21, .ref k22, .ref k23, u24, .ref k25, .ref k26, .ref k27, u28, u29, .ref k30, .ref k31, u32, .ref k33, u34, u35, .ref k36, .ref k37, .ref k38, .ref k39]), (k0, eI (ty 0) 1875 kf)])) := by
  refine CC_of (by decide) ?_
  intro p e s m below meth c A C hP hD hS
  obtain ⟨⟨hx, hb, hml, hown, hts⟩, hr, hlocks, hnm, hK, hE, hA, hZ⟩ := id C
  refine startW [.ref h0, .long (b).toInt64] 3 (nle rfl) (lv := [(0, .ref h0), (1, .long (b).toInt64)]) rfl (fun ls hl => ?_)
  refine lv_lload_n hx hb d_X9_isBill_0 rfl (lv_at hl 1 rfl) ?_
  refine lv_lconst (v := 0) hx hb d_X9_isBill_1 (by decide) ?_
  refine lv_ldc2 hx hb hown (hts _ k_1852) d_X9_isBill_2 ?_
  have ct_1 : Cut [(h0, eO 9 [.ref k0, .ref k1, .ref k2, .ref k3, u4, .ref k5, u6, u7, u8, u9, u10, u11, u12, u13, u14, u15, u16, u17, u18, .ref k19, .ref k20, .ref k21, .ref k22, .ref k23, u24, .ref k25, .ref k26, .ref k27, u28, u29, .ref k30, .ref k31, u32, .ref k33, u34, u35, .ref k36, .ref k37, .ref k38, .ref k39]), (k0, eI (ty 0) 1875 kf)] [] [(h0, eO 9 [.ref k0, .ref k1, .ref k2, .ref k3, u4, .ref k5, u6, u7, u8, u9, u10, u11, u12, u13, u14, u15, u16, u17, u18, .ref k19, .ref k20, .ref k21, .ref k22, .ref k23, u24, .ref k25, .ref k26, .ref k27, u28, u29, .ref k30, .ref k31, u32, .ref k33, u34, u35, .ref k36, .ref k37, .ref k38, .ref k39]), (k0, eI (ty 0) 1875 kf)] [] [0, 1] := ⟨rfl, rfl, rfl, rfl, by decide⟩
  refine cont_I C hP hD hS ct_1 (run_S (As := [.long (b).toInt64, .long 0, .long 999]) (rest := []) C hP hD hS ct_1 (c_mwi l D ty ((b).toInt64) 0 999) kS_PinchedBillModel_140 rfl hl.1 rfl (nle rfl) d_X9_isBill_5 ⟨by decide, by decide, by decide, by decide⟩) (fun r_3 w_4 H locs hw_2 hP hD hS => ?_)
  obtain ⟨rfl, rfl⟩ := hw_2
  have hP : va_P D vwCl [(h0, eO 9 [.ref k0, .ref k1, .ref k2, .ref k3, u4, .ref k5, u6, u7, u8, u9, u10, u11, u12, u13, u14, u15, u16, u17, u18, .ref k19, .ref k20, .ref k21, .ref k22, .ref k23, u24, .ref k25, .ref k26, .ref k27, u28, u29, .ref k30, .ref k31, u32, .ref k33, u34, u35, .ref k36, .ref k37, .ref k38, .ref k39]), (k0, eI (ty 0) 1875 kf)] H := hP
  have hD : va_D A [(h0, eO 9 [.ref k0, .ref k1, .ref k2, .ref k3, u4, .ref k5, u6, u7, u8, u9, u10, u11, u12, u13, u14, u15, u16, u17, u18, .ref k19, .ref k20, .ref k21, .ref k22, .ref k23, u24, .ref k25, .ref k26, .ref k27, u28, u29, .ref k30, .ref k31, u32, .ref k33, u34, u35, .ref k36, .ref k37, .ref k38, .ref k39]), (k0, eI (ty 0) 1875 kf)] := hD
  rcases bB_no hnb with hno | ⟨a9, ha9, hm9, rfl⟩
  · refine topeq (z := 0) (wiQ (n := b) (lo := 0) (hi := 999) rfl rfl rfl hno) ?_
    refine b_if_eqT C 27 d_X9_isBill_8 (by decide) (by decide) ?_
    refine lv_iconst (v := 0) hx hb d_X9_isBill_27 (by decide) ?_
    exact ret_Z (w := [(h0, eO 9 [.ref k0, .ref k1, .ref k2, .ref k3, u4, .ref k5, u6, u7, u8, u9, u10, u11, u12, u13, u14, u15, u16, u17, u18, .ref k19, .ref k20, .ref k21, .ref k22, .ref k23, u24, .ref k25, .ref k26, .ref k27, u28, u29, .ref k30, .ref k31, u32, .ref k33, u34, u35, .ref k36, .ref k37, .ref k38, .ref k39]), (k0, eI (ty 0) 1875 kf)]) C rfl hP hD hS [0, 1] rfl rfl ⟨rfl, rfl⟩ (by decide) (by decide) d_X9_isBill_28
  · rw [nI_l (show a9 < 2 ^ 31 by omega)] at hl
    refine topeq (z := 1) (wiN_1 a9 0 999 (nI_l (by omega)) rfl rfl (by omega) (by omega) (by omega)) ?_
    refine b_if_eqF C 27 d_X9_isBill_8 (by decide) (by decide) ?_
    refine lv_lload_n hx hb d_X9_isBill_11 rfl (lv_at hl 1 rfl) ?_
    refine lv_aload_n hx hb d_X9_isBill_12 rfl (lv_at hl 0 rfl) ?_
    have ct_5 : Cut [(h0, eO 9 [.ref k0, .ref k1, .ref k2, .ref k3, u4, .ref k5, u6, u7, u8, u9, u10, u11, u12, u13, u14, u15, u16, u17, u18, .ref k19, .ref k20, .ref k21, .ref k22, .ref k23, u24, .ref k25, .ref k26, .ref k27, u28, u29, .ref k30, .ref k31, u32, .ref k33, u34, u35, .ref k36, .ref k37, .ref k38, .ref k39]), (k0, eI (ty 0) 1875 kf)] [(h0, eO 9 [.ref k0, .ref k1, .ref k2, .ref k3, u4, .ref k5, u6, u7, u8, u9, u10, u11, u12, u13, u14, u15, u16, u17, u18, .ref k19, .ref k20, .ref k21, .ref k22, .ref k23, u24, .ref k25, .ref k26, .ref k27, u28, u29, .ref k30, .ref k31, u32, .ref k33, u34, u35, .ref k36, .ref k37, .ref k38, .ref k39]), (k0, eI (ty 0) 1875 kf)] [] [0, 1] [] := ⟨rfl, rfl, rfl, rfl, by decide⟩
    refine cont_I C hP hD hS ct_5 (run_V (As := []) (rest := [.long (lN a9)]) C hP hD hS ct_5 (c_mfine l D ty h0 k0 k1 k2 k3 k5 k19 k20 k21 k22 k23 k25 k26 k27 k30 k31 k33 k36 k37 k38 k39 u4 u6 u7 u8 u9 u10 u11 u12 u13 u14 u15 u16 u17 u18 u24 u28 u29 u32 u34 u35 kf hkf) kV_PinchedBillModel_264 0 rfl rfl rfl rfl hl.1 rfl (nle rfl) d_X9_isBill_13 ⟨by decide, by decide, by decide, by decide⟩) (fun r_7 w_8 H locs hw_6 hP hD hS => ?_)
    obtain ⟨rfl, rfl⟩ := hw_6
    have hP : va_P D vwCl [(h0, eO 9 [.ref k0, .ref k1, .ref k2, .ref k3, u4, .ref k5, u6, u7, u8, u9, u10, u11, u12, u13, u14, u15, u16, u17, u18, .ref k19, .ref k20, .ref k21, .ref k22, .ref k23, u24, .ref k25, .ref k26, .ref k27, u28, u29, .ref k30, .ref k31, u32, .ref k33, u34, u35, .ref k36, .ref k37, .ref k38, .ref k39]), (k0, eI (ty 0) 1875 kf)] H := hP
    have hD : va_D A [(h0, eO 9 [.ref k0, .ref k1, .ref k2, .ref k3, u4, .ref k5, u6, u7, u8, u9, u10, u11, u12, u13, u14, u15, u16, u17, u18, .ref k19, .ref k20, .ref k21, .ref k22, .ref k23, u24, .ref k25, .ref k26, .ref k27, u28, u29, .ref k30, .ref k31, u32, .ref k33, u34, u35, .ref k36, .ref k37, .ref k38, .ref k39]), (k0, eI (ty 0) 1875 kf)] := hD
    refine lv_i2l (v := 100) hx hb d_X9_isBill_16 (by decide) ?_
    refine r_lrem (z := (lN (a9 % 100))) C d_X9_isBill_17 (by decide) (l_rem a9 100 (a9 % 100) rfl rfl (by omega) (by omega) (by omega) rfl) ?_
    refine lv_lconst (v := 0) hx hb d_X9_isBill_18 (by decide) ?_
    refine W.lcmp hx hb d_X9_isBill_19 (topeq (z := 1) (lc_gt (a9 % 100) 0 rfl rfl (by omega) (by omega) (by omega)) ?_)
    refine b_if_neT C 27 d_X9_isBill_20 (by decide) (by decide) ?_
    refine lv_iconst (v := 0) hx hb d_X9_isBill_27 (by decide) ?_
    exact ret_Z (w := [(h0, eO 9 [.ref k0, .ref k1, .ref k2, .ref k3, u4, .ref k5, u6, u7, u8, u9, u10, u11, u12, u13, u14, u15, u16, u17, u18, .ref k19, .ref k20, .ref k21, .ref k22, .ref k23, u24, .ref k25, .ref k26, .ref k27, u28, u29, .ref k30, .ref k31, u32, .ref k33, u34, u35, .ref k36, .ref k37, .ref k38, .ref k39]), (k0, eI (ty 0) 1875 kf)]) C rfl hP hD hS [0, 1] rfl rfl ⟨rfl, rfl⟩ (by decide) (by decide) d_X9_isBill_28
set_option maxHeartbeats 4000000 in
set_option maxRecDepth 100000 in
theorem c_mmany (l : Launch) (D : va_G) (ty : Nat → ClassId) (h0 : Nat) (k0 : Nat) (k1 : Nat) (k2 : Nat) (k3 : Nat) (k5 : Nat) (k19 : Nat) (k20 : Nat) (k21 : Nat) (k22 : Nat) (k23 : Nat) (k25 : Nat) (k26 : Nat) (k27 : Nat) (k30 : Nat) (k31 : Nat) (k33 : Nat) (k36 : Nat) (k37 : Nat) (k38 : Nat) (k39 : Nat) (u4 : Value) (u6 : Value) (u7 : Value) (u8 : Value) (u9 : Value) (u10 : Value) (u11 : Value) (u12 : Value) (u13 : Value) (u14 : Value) (u15 : Value) (u16 : Value) (u17 : Value) (u18 : Value) (u24 : Value) (u28 : Value) (u29 : Value) (u32 : Value) (u34 : Value) (u35 : Value) (kf : Nat → Int32) (hkf : KF kf) : CC l D ty ⟨"PinchedBillModel", "manyBills", "()I"⟩ prog_11_method_41_code 1 (some .int) 2 40 0 0 [.ref h0] [(h0, eO 9 [.ref k0, .ref k1, .ref k2, .ref k3, u4, .ref k5, u6, u7, u8, u9, u10, u11, u12, u13, u14, u15, u16, u17, u18, .ref k19, .ref k20, .ref k21, .ref k22, .ref k23, u24, .ref k25, .ref k26, .ref k27, u28, u29, .ref k30, .ref k31, u32, .ref k33, u34, u35, .ref k36, .ref k37, .ref k38, .ref k39]), (k0, eI (ty 0) 1875 kf)] (QI D ty (fun (r : Int32) (w : va_W) => 10 = r ∧ w = [(h0, eO 9 [.ref k0, .ref k1, .ref k2, .ref k3, u4, .ref k5, u6, u7, u8, u9, u10, u11, u12, u13, u14, u15, u16, u17, u18, .ref k19, .ref k20, .ref k21, .ref k22, .ref k23, u24, .ref k25, .ref k26, .ref k27, u28, u29, .ref k30, .ref k31, u32, .ref k33, u34, u35, .ref k36, .ref k37, .ref k38, .ref k39]), (k0, eI (ty 0) 1875 kf)])) := by
  refine CC_of (by decide) ?_
  intro p e s m below meth c A C hP hD hS
  obtain ⟨⟨hx, hb, hml, hown, hts⟩, hr, hlocks, hnm, hK, hE, hA, hZ⟩ := id C
  refine startW [.ref h0] 1 (nle rfl) (lv := [(0, .ref h0)]) rfl (fun ls hl => ?_)
  refine lv_sipush (v := 1000) hx hb d_X9_manyBills_0 (by decide) ?_
  refine lv_aload_n hx hb d_X9_manyBills_3 rfl (lv_at hl 0 rfl) ?_
  have ct_1 : Cut [(h0, eO 9 [.ref k0, .ref k1, .ref k2, .ref k3, u4, .ref k5, u6, u7, u8, u9, u10, u11, u12, u13, u14, u15, u16, u17, u18, .ref k19, .ref k20, .ref k21, .ref k22, .ref k23, u24, .ref k25, .ref k26, .ref k27, u28, u29, .ref k30, .ref k31, u32, .ref k33, u34, u35, .ref k36, .ref k37, .ref k38, .ref k39]), (k0, eI (ty 0) 1875 kf)] [(h0, eO 9 [.ref k0, .ref k1, .ref k2, .ref k3, u4, .ref k5, u6, u7, u8, u9, u10, u11, u12, u13, u14, u15, u16, u17, u18, .ref k19, .ref k20, .ref k21, .ref k22, .ref k23, u24, .ref k25, .ref k26, .ref k27, u28, u29, .ref k30, .ref k31, u32, .ref k33, u34, u35, .ref k36, .ref k37, .ref k38, .ref k39]), (k0, eI (ty 0) 1875 kf)] [] [0, 1] [] := ⟨rfl, rfl, rfl, rfl, by decide⟩
  refine cont_I C hP hD hS ct_1 (run_V (As := []) (rest := [.int 1000]) C hP hD hS ct_1 (c_mfine l D ty h0 k0 k1 k2 k3 k5 k19 k20 k21 k22 k23 k25 k26 k27 k30 k31 k33 k36 k37 k38 k39 u4 u6 u7 u8 u9 u10 u11 u12 u13 u14 u15 u16 u17 u18 u24 u28 u29 u32 u34 u35 kf hkf) kV_PinchedBillModel_264 0 rfl rfl rfl rfl hl.1 rfl (nle rfl) d_X9_manyBills_4 ⟨by decide, by decide, by decide, by decide⟩) (fun r_3 w_4 H locs hw_2 hP hD hS => ?_)
  obtain ⟨rfl, rfl⟩ := hw_2
  have hP : va_P D vwCl [(h0, eO 9 [.ref k0, .ref k1, .ref k2, .ref k3, u4, .ref k5, u6, u7, u8, u9, u10, u11, u12, u13, u14, u15, u16, u17, u18, .ref k19, .ref k20, .ref k21, .ref k22, .ref k23, u24, .ref k25, .ref k26, .ref k27, u28, u29, .ref k30, .ref k31, u32, .ref k33, u34, u35, .ref k36, .ref k37, .ref k38, .ref k39]), (k0, eI (ty 0) 1875 kf)] H := hP
  have hD : va_D A [(h0, eO 9 [.ref k0, .ref k1, .ref k2, .ref k3, u4, .ref k5, u6, u7, u8, u9, u10, u11, u12, u13, u14, u15, u16, u17, u18, .ref k19, .ref k20, .ref k21, .ref k22, .ref k23, u24, .ref k25, .ref k26, .ref k27, u28, u29, .ref k30, .ref k31, u32, .ref k33, u34, u35, .ref k36, .ref k37, .ref k38, .ref k39]), (k0, eI (ty 0) 1875 kf)] := hD
  refine r_idiv (z := 10) C d_X9_manyBills_7 (by decide) (by decide) ?_
  exact ret_I (w := [(h0, eO 9 [.ref k0, .ref k1, .ref k2, .ref k3, u4, .ref k5, u6, u7, u8, u9, u10, u11, u12, u13, u14, u15, u16, u17, u18, .ref k19, .ref k20, .ref k21, .ref k22, .ref k23, u24, .ref k25, .ref k26, .ref k27, u28, u29, .ref k30, .ref k31, u32, .ref k33, u34, u35, .ref k36, .ref k37, .ref k38, .ref k39]), (k0, eI (ty 0) 1875 kf)]) C hP hD hS [0, 1] rfl rfl ⟨rfl, rfl⟩ (by decide) (by decide) d_X9_manyBills_8
set_option maxHeartbeats 4000000 in
set_option maxRecDepth 100000 in
theorem c_mfig0 (l : Launch) (D : va_G) (ty : Nat → ClassId) (b : Nat) (hbd : b < 1000) : CC l D ty ⟨"PinchedBillModel", "figure", "(II)I"⟩ prog_11_method_42_code 2 (some .int) 1 20 0 0 [.int (nI b), .int 0] [] (QI D ty (fun (r : Int32) (w : va_W) => (nI ((b / 100) % 10)) = r ∧ w = [])) := by
  refine CC_of (by decide) ?_
  intro p e s m below meth c A C hP hD hS
  obtain ⟨⟨hx, hb, hml, hown, hts⟩, hr, hlocks, hnm, hK, hE, hA, hZ⟩ := id C
  refine startW [.int (nI b), .int 0] 2 (nle rfl) (lv := [(0, .int (nI b)), (1, .int 0)]) rfl (fun ls hl => ?_)
  refine lv_iload_n hx hb d_X9_figure_0 rfl (lv_at hl 0 rfl) ?_
  refine lv_iload_n hx hb d_X9_figure_1 rfl (lv_at hl 1 rfl) ?_
  have ct_1 : Cut [] [] [] [] [] := ⟨rfl, rfl, rfl, rfl, by decide⟩
  refine cont_I C hP hD hS ct_1 (run_S (As := [.int 0]) (rest := [.int (nI b)]) C hP hD hS ct_1 (c_mw0 l D ty) kS_PinchedBillModel_218 rfl hl.1 rfl (nle rfl) d_X9_figure_2 ⟨by decide, by decide, by decide, by decide⟩) (fun r_3 w_4 H locs hw_2 hP hD hS => ?_)
  obtain ⟨rfl, rfl⟩ := hw_2
  have hP : va_P D vwCl [] H := hP
  have hD : va_D A [] := hD
  refine r_idiv (z := (nI (b / 100))) C d_X9_figure_5 (by decide) (a_div b 100 (b / 100) rfl rfl (by omega) (by omega) (by omega) rfl) ?_
  refine lv_bipush (v := 10) hx hb d_X9_figure_6 (by decide) ?_
  refine r_irem (z := (nI ((b / 100) % 10))) C d_X9_figure_8 (by decide) (a_rem (b / 100) 10 ((b / 100) % 10) rfl rfl (by omega) (by omega) (by omega) rfl) ?_
  exact ret_I (w := []) C hP hD hS [] rfl rfl ⟨rfl, rfl⟩ (by decide) (by decide) d_X9_figure_9
set_option maxHeartbeats 4000000 in
set_option maxRecDepth 100000 in
theorem c_mfig1 (l : Launch) (D : va_G) (ty : Nat → ClassId) (b : Nat) (hbd : b < 1000) : CC l D ty ⟨"PinchedBillModel", "figure", "(II)I"⟩ prog_11_method_42_code 2 (some .int) 1 20 0 0 [.int (nI b), .int 1] [] (QI D ty (fun (r : Int32) (w : va_W) => (nI ((b / 10) % 10)) = r ∧ w = [])) := by
  refine CC_of (by decide) ?_
  intro p e s m below meth c A C hP hD hS
  obtain ⟨⟨hx, hb, hml, hown, hts⟩, hr, hlocks, hnm, hK, hE, hA, hZ⟩ := id C
  refine startW [.int (nI b), .int 1] 2 (nle rfl) (lv := [(0, .int (nI b)), (1, .int 1)]) rfl (fun ls hl => ?_)
  refine lv_iload_n hx hb d_X9_figure_0 rfl (lv_at hl 0 rfl) ?_
  refine lv_iload_n hx hb d_X9_figure_1 rfl (lv_at hl 1 rfl) ?_
  have ct_1 : Cut [] [] [] [] [] := ⟨rfl, rfl, rfl, rfl, by decide⟩
  refine cont_I C hP hD hS ct_1 (run_S (As := [.int 1]) (rest := [.int (nI b)]) C hP hD hS ct_1 (c_mw1 l D ty) kS_PinchedBillModel_218 rfl hl.1 rfl (nle rfl) d_X9_figure_2 ⟨by decide, by decide, by decide, by decide⟩) (fun r_3 w_4 H locs hw_2 hP hD hS => ?_)
  obtain ⟨rfl, rfl⟩ := hw_2
  have hP : va_P D vwCl [] H := hP
  have hD : va_D A [] := hD
  refine r_idiv (z := (nI (b / 10))) C d_X9_figure_5 (by decide) (a_div b 10 (b / 10) rfl rfl (by omega) (by omega) (by omega) rfl) ?_
  refine lv_bipush (v := 10) hx hb d_X9_figure_6 (by decide) ?_
  refine r_irem (z := (nI ((b / 10) % 10))) C d_X9_figure_8 (by decide) (a_rem (b / 10) 10 ((b / 10) % 10) rfl rfl (by omega) (by omega) (by omega) rfl) ?_
  exact ret_I (w := []) C hP hD hS [] rfl rfl ⟨rfl, rfl⟩ (by decide) (by decide) d_X9_figure_9
set_option maxHeartbeats 4000000 in
set_option maxRecDepth 100000 in
theorem c_mfig2 (l : Launch) (D : va_G) (ty : Nat → ClassId) (b : Nat) (hbd : b < 1000) : CC l D ty ⟨"PinchedBillModel", "figure", "(II)I"⟩ prog_11_method_42_code 2 (some .int) 1 20 0 0 [.int (nI b), .int 2] [] (QI D ty (fun (r : Int32) (w : va_W) => (nI ((b / 1) % 10)) = r ∧ w = [])) := by
  refine CC_of (by decide) ?_
  intro p e s m below meth c A C hP hD hS
  obtain ⟨⟨hx, hb, hml, hown, hts⟩, hr, hlocks, hnm, hK, hE, hA, hZ⟩ := id C
  refine startW [.int (nI b), .int 2] 2 (nle rfl) (lv := [(0, .int (nI b)), (1, .int 2)]) rfl (fun ls hl => ?_)
  refine lv_iload_n hx hb d_X9_figure_0 rfl (lv_at hl 0 rfl) ?_
  refine lv_iload_n hx hb d_X9_figure_1 rfl (lv_at hl 1 rfl) ?_
  have ct_1 : Cut [] [] [] [] [] := ⟨rfl, rfl, rfl, rfl, by decide⟩
  refine cont_I C hP hD hS ct_1 (run_S (As := [.int 2]) (rest := [.int (nI b)]) C hP hD hS ct_1 (c_mw2 l D ty) kS_PinchedBillModel_218 rfl hl.1 rfl (nle rfl) d_X9_figure_2 ⟨by decide, by decide, by decide, by decide⟩) (fun r_3 w_4 H locs hw_2 hP hD hS => ?_)
  obtain ⟨rfl, rfl⟩ := hw_2
  have hP : va_P D vwCl [] H := hP
  have hD : va_D A [] := hD
  refine r_idiv (z := (nI (b / 1))) C d_X9_figure_5 (by decide) (a_div b 1 (b / 1) rfl rfl (by omega) (by omega) (by omega) rfl) ?_
  refine lv_bipush (v := 10) hx hb d_X9_figure_6 (by decide) ?_
  refine r_irem (z := (nI ((b / 1) % 10))) C d_X9_figure_8 (by decide) (a_rem (b / 1) 10 ((b / 1) % 10) rfl rfl (by omega) (by omega) (by omega) rfl) ?_
  exact ret_I (w := []) C hP hD hS [] rfl rfl ⟨rfl, rfl⟩ (by decide) (by decide) d_X9_figure_9
set_option maxHeartbeats 4000000 in
set_option maxRecDepth 100000 in
theorem c_mtab (l : Launch) (D : va_G) (ty : Nat → ClassId) (h0 : Nat) (k0 : Nat) (k1 : Nat) (k2 : Nat) (k3 : Nat) (k5 : Nat) (k19 : Nat) (k20 : Nat) (k21 : Nat) (k22 : Nat) (k23 : Nat) (k25 : Nat) (k26 : Nat) (k27 : Nat) (k30 : Nat) (k31 : Nat) (k33 : Nat) (k36 : Nat) (k37 : Nat) (k38 : Nat) (k39 : Nat) (u4 : Value) (u6 : Value) (u7 : Value) (u8 : Value) (u9 : Value) (u10 : Value) (u11 : Value) (u12 : Value) (u13 : Value) (u14 : Value) (u15 : Value) (u16 : Value) (u17 : Value) (u18 : Value) (u24 : Value) (u28 : Value) (u29 : Value) (u32 : Value) (u34 : Value) (u35 : Value) (kf : Nat → Int32) (hkf : KF kf) : CC l D ty ⟨"PinchedBillModel", "laysTables", "()V"⟩ prog_11_method_51_code 3 none 2 40 0 0 [.ref h0] [(h0, eO 9 [.ref k0, .ref k1, .ref k2, .ref k3, u4, .ref k5, u6, u7, u8, u9, u10, u11, u12, u13, u14, u15, u16, u17, u18, .ref k19, .ref k20, .ref k21, .ref k22, .ref k23, u24, .ref k25, .ref k26, .ref k27, u28, u29, .ref k30, .ref k31, u32, .ref k33, u34, u35, .ref k36, .ref k37, .ref k38, .ref k39]), (k0, eI (ty 0) 1875 kf), (k21, eI (ty 0) 1000 (fun _ => 0))] (QV D ty (fun (w : va_W) => w = [(h0, eO 9 [.ref k0, .ref k1, .ref k2, .ref k3, u4, .ref k5, u6, u7, u8, u9, u10, u11, u12, u13, u14, u15, u16, u17, u18, .ref k19, .ref k20, .ref k21, .ref k22, .ref k23, u24, .ref k25, .ref k26, .ref k27, u28, u29, .ref k30, .ref k31, u32, .ref k33, u34, u35, .ref k36, .ref k37, .ref k38, .ref k39]), (k0, eI (ty 0) 1875 kf), (k21, eI (ty 0) 1000 (fun _ => 0))])) := by
  refine CC_of (by decide) ?_
  intro p e s m below meth c A C hP hD hS
  obtain ⟨⟨hx, hb, hml, hown, hts⟩, hr, hlocks, hnm, hK, hE, hA, hZ⟩ := id C
  refine startW [.ref h0] 3 (nle rfl) (lv := [(0, .ref h0)]) rfl (fun ls hl => ?_)
  refine lv_iconst (v := 0) hx hb d_X9_laysTables_0 (by decide) ?_
  refine lv_istore_n (lv' := [(1, .int 0), (0, .ref h0)]) hx hb d_X9_laysTables_1 rfl hl (by decide) rfl (fun ls hl => ?_)
  refine loopW1 (fun (i : Nat) (H : Heap) (locs : List Loc) (ls : Array Slot) => (i ≤ 10) ∧ va_P D vwCl [(h0, eO 9 [.ref k0, .ref k1, .ref k2, .ref k3, u4, .ref k5, u6, u7, u8, u9, u10, u11, u12, u13, u14, u15, u16, u17, u18, .ref k19, .ref k20, .ref k21, .ref k22, .ref k23, u24, .ref k25, .ref k26, .ref k27, u28, u29, .ref k30, .ref k31, u32, .ref k33, u34, u35, .ref k36, .ref k37, .ref k38, .ref k39]), (k0, eI (ty 0) 1875 kf), (k21, eI (ty 0) 1000 (fun _ => 0))] H ∧ va_D A [(h0, eO 9 [.ref k0, .ref k1, .ref k2, .ref k3, u4, .ref k5, u6, u7, u8, u9, u10, u11, u12, u13, u14, u15, u16, u17, u18, .ref k19, .ref k20, .ref k21, .ref k22, .ref k23, u24, .ref k25, .ref k26, .ref k27, u28, u29, .ref k30, .ref k31, u32, .ref k33, u34, u35, .ref k36, .ref k37, .ref k38, .ref k39]), (k0, eI (ty 0) 1875 kf), (k21, eI (ty 0) 1000 (fun _ => 0))] ∧ va_S A s.heap H locs ∧ lv_has ls 3 [(1, .int (nI (100 * i))), (0, .ref h0)]) (fun (i : Nat) => 10 - i) ?_ 0 ⟨(by omega), hP, hD, hS, lv_sub hl [0, 1] rfl⟩
  intro i H locs ls hI ih_1
  obtain ⟨hi, hP, hD, hS, hl⟩ := hI
  refine lv_iload_n hx hb d_X9_laysTables_2 rfl (lv_at hl 0 rfl) ?_
  refine lv_sipush (v := 1000) hx hb d_X9_laysTables_3 (by decide) ?_
  refine lv_icmp_ge (tgt := 84) hx hb d_X9_laysTables_6 (by decide) (fun hc_2 => ?_) (fun hc_2 => ?_)
  · have hc_2 := un_le 1000 (100 * i) rfl rfl (by omega) (by omega) hc_2
    exact ret_V (w := [(h0, eO 9 [.ref k0, .ref k1, .ref k2, .ref k3, u4, .ref k5, u6, u7, u8, u9, u10, u11, u12, u13, u14, u15, u16, u17, u18, .ref k19, .ref k20, .ref k21, .ref k22, .ref k23, u24, .ref k25, .ref k26, .ref k27, u28, u29, .ref k30, .ref k31, u32, .ref k33, u34, u35, .ref k36, .ref k37, .ref k38, .ref k39]), (k0, eI (ty 0) 1875 kf), (k21, eI (ty 0) 1000 (fun _ => 0))]) C hP hD hS [0, 1, 2] rfl rfl rfl (by decide) (by decide) d_X9_laysTables_84
  · have hc_2 := un_nle 1000 (100 * i) rfl rfl (by omega) (by omega) hc_2
    refine lv_aload_n hx hb d_X9_laysTables_9 rfl (lv_at hl 1 rfl) ?_
    refine r_get (v := .ref k21) C hP 0 rfl rfl lay_X9 21 (by decide) k_1566 rfl d_X9_laysTables_10 ?_
    refine lv_iload_n hx hb d_X9_laysTables_13 rfl (lv_at hl 0 rfl) ?_
    refine lv_iconst (v := 0) hx hb d_X9_laysTables_14 (by decide) ?_
    refine r_iast (w := [(h0, eO 9 [.ref k0, .ref k1, .ref k2, .ref k3, u4, .ref k5, u6, u7, u8, u9, u10, u11, u12, u13, u14, u15, u16, u17, u18, .ref k19, .ref k20, .ref k21, .ref k22, .ref k23, u24, .ref k25, .ref k26, .ref k27, u28, u29, .ref k30, .ref k31, u32, .ref k33, u34, u35, .ref k36, .ref k37, .ref k38, .ref k39]), (k0, eI (ty 0) 1875 kf), (k21, eI (ty 0) 1000 (upd (fun _ => 0) (100 * i) 0))]) C hP hD hS 2 rfl (100 * i) rfl (by omega) (by decide) rfl d_X9_laysTables_15 (fun H locs hP hD hS => ?_)
    refine lv_iconst (v := 0) hx hb d_X9_laysTables_16 (by decide) ?_
    refine lv_istore_n (lv' := [(2, .int 0), (1, .int (nI (100 * i))), (0, .ref h0)]) hx hb d_X9_laysTables_17 rfl hl (by decide) rfl (fun ls hl => ?_)
    refine lv_iload_n hx hb d_X9_laysTables_18 rfl (lv_at hl 0 rfl) ?_
    refine lv_aload_n hx hb d_X9_laysTables_19 rfl (lv_at hl 2 rfl) ?_
    have ct_3 : Cut [(h0, eO 9 [.ref k0, .ref k1, .ref k2, .ref k3, u4, .ref k5, u6, u7, u8, u9, u10, u11, u12, u13, u14, u15, u16, u17, u18, .ref k19, .ref k20, .ref k21, .ref k22, .ref k23, u24, .ref k25, .ref k26, .ref k27, u28, u29, .ref k30, .ref k31, u32, .ref k33, u34, u35, .ref k36, .ref k37, .ref k38, .ref k39]), (k0, eI (ty 0) 1875 kf), (k21, eI (ty 0) 1000 (upd (fun _ => 0) (100 * i) 0))] [(h0, eO 9 [.ref k0, .ref k1, .ref k2, .ref k3, u4, .ref k5, u6, u7, u8, u9, u10, u11, u12, u13, u14, u15, u16, u17, u18, .ref k19, .ref k20, .ref k21, .ref k22, .ref k23, u24, .ref k25, .ref k26, .ref k27, u28, u29, .ref k30, .ref k31, u32, .ref k33, u34, u35, .ref k36, .ref k37, .ref k38, .ref k39]), (k0, eI (ty 0) 1875 kf)] [(k21, eI (ty 0) 1000 (upd (fun _ => 0) (100 * i) 0))] [0, 1] [2] := ⟨rfl, rfl, rfl, rfl, by decide⟩
    refine cont_I C hP hD hS ct_3 (run_V (As := []) (rest := [.int 0]) C hP hD hS ct_3 (c_mpeople l D ty h0 k0 k1 k2 k3 k5 k19 k20 k21 k22 k23 k25 k26 k27 k30 k31 k33 k36 k37 k38 k39 u4 u6 u7 u8 u9 u10 u11 u12 u13 u14 u15 u16 u17 u18 u24 u28 u29 u32 u34 u35 kf hkf) kV_PinchedBillModel_259 0 rfl rfl rfl rfl hl.1 rfl (nle rfl) d_X9_laysTables_20 ⟨by decide, by decide, by decide, by decide⟩) (fun r_5 w_6 H locs hw_4 hP hD hS => ?_)
    obtain ⟨rfl, rfl⟩ := hw_4
    have hP : va_P D vwCl [(k21, eI (ty 0) 1000 (upd (fun _ => 0) (100 * i) 0)), (h0, eO 9 [.ref k0, .ref k1, .ref k2, .ref k3, u4, .ref k5, u6, u7, u8, u9, u10, u11, u12, u13, u14, u15, u16, u17, u18, .ref k19, .ref k20, .ref k21, .ref k22, .ref k23, u24, .ref k25, .ref k26, .ref k27, u28, u29, .ref k30, .ref k31, u32, .ref k33, u34, u35, .ref k36, .ref k37, .ref k38, .ref k39]), (k0, eI (ty 0) 1875 kf)] H := hP
    have hD : va_D A [(k21, eI (ty 0) 1000 (upd (fun _ => 0) (100 * i) 0)), (h0, eO 9 [.ref k0, .ref k1, .ref k2, .ref k3, u4, .ref k5, u6, u7, u8, u9, u10, u11, u12, u13, u14, u15, u16, u17, u18, .ref k19, .ref k20, .ref k21, .ref k22, .ref k23, u24, .ref k25, .ref k26, .ref k27, u28, u29, .ref k30, .ref k31, u32, .ref k33, u34, u35, .ref k36, .ref k37, .ref k38, .ref k39]), (k0, eI (ty 0) 1875 kf)] := hD
    refine b_icmp_geT C 74 d_X9_laysTables_23 (by decide) (by decide) ?_
    refine lv_iload_n hx hb d_X9_laysTables_74 rfl (lv_at hl 1 rfl) ?_
    refine lv_aload_n hx hb d_X9_laysTables_75 rfl (lv_at hl 2 rfl) ?_
    have ct_7 : Cut [(k21, eI (ty 0) 1000 (upd (fun _ => 0) (100 * i) 0)), (h0, eO 9 [.ref k0, .ref k1, .ref k2, .ref k3, u4, .ref k5, u6, u7, u8, u9, u10, u11, u12, u13, u14, u15, u16, u17, u18, .ref k19, .ref k20, .ref k21, .ref k22, .ref k23, u24, .ref k25, .ref k26, .ref k27, u28, u29, .ref k30, .ref k31, u32, .ref k33, u34, u35, .ref k36, .ref k37, .ref k38, .ref k39]), (k0, eI (ty 0) 1875 kf)] [(h0, eO 9 [.ref k0, .ref k1, .ref k2, .ref k3, u4, .ref k5, u6, u7, u8, u9, u10, u11, u12, u13, u14, u15, u16, u17, u18, .ref k19, .ref k20, .ref k21, .ref k22, .ref k23, u24, .ref k25, .ref k26, .ref k27, u28, u29, .ref k30, .ref k31, u32, .ref k33, u34, u35, .ref k36, .ref k37, .ref k38, .ref k39]), (k0, eI (ty 0) 1875 kf)] [(k21, eI (ty 0) 1000 (upd (fun _ => 0) (100 * i) 0))] [1, 2] [0] := ⟨rfl, rfl, rfl, rfl, by decide⟩
    refine cont_I C hP hD hS ct_7 (run_V (As := []) (rest := [.int (nI (100 * i))]) C hP hD hS ct_7 (c_mfine l D ty h0 k0 k1 k2 k3 k5 k19 k20 k21 k22 k23 k25 k26 k27 k30 k31 k33 k36 k37 k38 k39 u4 u6 u7 u8 u9 u10 u11 u12 u13 u14 u15 u16 u17 u18 u24 u28 u29 u32 u34 u35 kf hkf) kV_PinchedBillModel_264 1 rfl rfl rfl rfl hl.1 rfl (nle rfl) d_X9_laysTables_76 ⟨by decide, by decide, by decide, by decide⟩) (fun r_9 w_10 H locs hw_8 hP hD hS => ?_)
    obtain ⟨rfl, rfl⟩ := hw_8
    have hP : va_P D vwCl [(k21, eI (ty 0) 1000 (upd (fun _ => 0) (100 * i) 0)), (h0, eO 9 [.ref k0, .ref k1, .ref k2, .ref k3, u4, .ref k5, u6, u7, u8, u9, u10, u11, u12, u13, u14, u15, u16, u17, u18, .ref k19, .ref k20, .ref k21, .ref k22, .ref k23, u24, .ref k25, .ref k26, .ref k27, u28, u29, .ref k30, .ref k31, u32, .ref k33, u34, u35, .ref k36, .ref k37, .ref k38, .ref k39]), (k0, eI (ty 0) 1875 kf)] H := hP
    have hD : va_D A [(k21, eI (ty 0) 1000 (upd (fun _ => 0) (100 * i) 0)), (h0, eO 9 [.ref k0, .ref k1, .ref k2, .ref k3, u4, .ref k5, u6, u7, u8, u9, u10, u11, u12, u13, u14, u15, u16, u17, u18, .ref k19, .ref k20, .ref k21, .ref k22, .ref k23, u24, .ref k25, .ref k26, .ref k27, u28, u29, .ref k30, .ref k31, u32, .ref k33, u34, u35, .ref k36, .ref k37, .ref k38, .ref k39]), (k0, eI (ty 0) 1875 kf)] := hD
    refine r_iadd (z := (nI ((100 * i) + 100))) C d_X9_laysTables_79 (a_add (100 * i) 100 ((100 * i) + 100) rfl rfl (by omega)) ?_
    refine lv_istore_n (lv' := [(1, .int (nI ((100 * i) + 100))), (2, .int 0), (0, .ref h0)]) hx hb d_X9_laysTables_80 rfl hl (by decide) rfl (fun ls hl => ?_)
    refine lv_goto (tgt := 2) hx hb d_X9_laysTables_81 (by decide) ?_
    rw [up0] at hP hD
    exact ih_1 (i + 1) _ _ _ (by omega) ⟨(by omega), sub_P hP (is := [1, 2, 0]) rfl, hD.sub [1, 2, 0] (by decide) rfl, hS, lv_sub hl [0, 2] rfl⟩
set_option maxHeartbeats 4000000 in
set_option maxRecDepth 100000 in
theorem c_model (l : Launch) (D : va_G) (ty : Nat → ClassId) (h0 : Nat) : CC l D ty ⟨"PinchedBillModel", "<init>", "()V"⟩ prog_11_method_1_code 1 none 3 62 20 48746 [.ref h0] [(h0, eO 9 [.null, .null, .null, .null, .int 0, .null, .int 0, .int 0, .int 0, .int 0, .int 0, .int 0, .int 0, .int 0, .int 0, .int 0, .int 0, .int 0, .int 0, .null, .null, .null, .null, .null, .int 0, .null, .null, .null, .int 0, .int 0, .null, .null, .int 0, .null, .int 0, .int 0, .null, .null, .null, .null])] (QV D ty (fun (w : va_W) => ∃ (k0 : Nat) (k1 : Nat) (k2 : Nat) (k3 : Nat) (k5 : Nat) (k19 : Nat) (k20 : Nat) (k21 : Nat) (k22 : Nat) (k23 : Nat) (k25 : Nat) (k26 : Nat) (k27 : Nat) (k30 : Nat) (k31 : Nat) (k33 : Nat) (k36 : Nat) (k37 : Nat) (k38 : Nat) (k39 : Nat), w = [(h0, eO 9 [.ref k0, .ref k1, .ref k2, .ref k3, .int 0, .ref k5, .int 0, .int 0, .int 0, .int 0, .int 0, .int 0, .int 0, .int 0, .int 0, .int (-1), .int 0, .int 0, .int 0, .ref k19, .ref k20, .ref k21, .ref k22, .ref k23, .int 0, .ref k25, .ref k26, .ref k27, .int 0, .int 0, .ref k30, .ref k31, .int 0, .ref k33, .int 0, .int 0, .ref k36, .ref k37, .ref k38, .ref k39]), (k0, eI (ty 0) 1875 knF), (k1, eI (ty 0) 1875 (fun _ => 0)), (k2, eI (ty 0) 5625 (fun _ => 0)), (k3, eI (ty 2) 3 (fun _ => 0)), (k5, eI (ty 0) 900 (fun _ => 0)), (k19, eI (ty 0) 64 (fun _ => 0)), (k20, eI (ty 0) 8 (fun _ => 0)), (k21, eI (ty 0) 1000 (fun _ => 0)), (k22, eI (ty 0) 8000 (fun _ => 0)), (k23, eI (ty 0) 3 (fun _ => 0)), (k25, eI (ty 0) 9000 (fun _ => 0)), (k26, eI (ty 0) 9000 (fun _ => 0)), (k27, eI (ty 0) 9001 (fun _ => 0)), (k30, eI (ty 0) 8 (fun _ => 0)), (k31, eI (ty 0) 1000 (fun _ => 0)), (k33, eI (ty 0) 1000 (fun _ => 0)), (k36, eI (ty 2) 256 (fun _ => 0)), (k37, eI (ty 0) 4 tsF), (k38, eI (ty 0) 4 (fun _ => 0)), (k39, eJ (ty 3) 120 (fun _ => 0))])) := by
  refine CC_of (by decide) ?_
  intro p e s m below meth c A C hP hD hS
  obtain ⟨⟨hx, hb, hml, hown, hts⟩, hr, hlocks, hnm, hK, hE, hA, hZ⟩ := id C
  refine startW [.ref h0] 1 (nle rfl) (lv := [(0, .ref h0)]) rfl (fun ls hl => ?_)
  refine lv_aload_n hx hb d_X9_init_0 rfl (lv_at hl 0 rfl) ?_
  refine r_obj C k_1492 k_149 k_150 hl.1 d_X9_init_1 (by decide) (nle rfl) ?_
  refine lv_aload_n hx hb d_X9_init_4 rfl (lv_at hl 0 rfl) ?_
  refine lv_sipush (v := 1875) hx hb d_X9_init_5 (by decide) ?_
  refine r_newa (a0 := (1875, .inl (fun _ => 0))) C hP hD hS 0 rfl rfl (fun _ _ h => h) k_225 (fun _ => rfl) (by decide) (N' := 1875) (by decide) (by decide) (by decide) (by decide) d_X9_init_8 (fun q_1 H hP hD hS => ?_)
  have hP : va_P D vwCl [(h0, eO 9 [.null, .null, .null, .null, .int 0, .null, .int 0, .int 0, .int 0, .int 0, .int 0, .int 0, .int 0, .int 0, .int 0, .int 0, .int 0, .int 0, .int 0, .null, .null, .null, .null, .null, .int 0, .null, .null, .null, .int 0, .int 0, .null, .null, .int 0, .null, .int 0, .int 0, .null, .null, .null, .null]), (q_1, eI (ty 0) 1875 (fun _ => 0))] H := hP
  have hD : va_D A [(h0, eO 9 [.null, .null, .null, .null, .int 0, .null, .int 0, .int 0, .int 0, .int 0, .int 0, .int 0, .int 0, .int 0, .int 0, .int 0, .int 0, .int 0, .int 0, .null, .null, .null, .null, .null, .int 0, .null, .null, .null, .int 0, .int 0, .null, .null, .int 0, .null, .int 0, .int 0, .null, .null, .null, .null]), (q_1, eI (ty 0) 1875 (fun _ => 0))] := hD
  refine r_putF (w := [(h0, eO 9 [.ref q_1, .null, .null, .null, .int 0, .null, .int 0, .int 0, .int 0, .int 0, .int 0, .int 0, .int 0, .int 0, .int 0, .int 0, .int 0, .int 0, .int 0, .null, .null, .null, .null, .null, .int 0, .null, .null, .null, .int 0, .int 0, .null, .null, .int 0, .null, .int 0, .int 0, .null, .null, .null, .null]), (q_1, eI (ty 0) 1875 (fun _ => 0))]) C hP hD hS 0 rfl rfl lay_X9 tok_X9 nmo_X9 0 (by decide) k_1545 rfl rfl rfl rfl (nle rfl) rfl d_X9_init_10 (fun H locs hP hD hS => ?_)
  refine lv_aload_n hx hb d_X9_init_13 rfl (lv_at hl 0 rfl) ?_
  refine lv_sipush (v := 1875) hx hb d_X9_init_14 (by decide) ?_
  refine r_newa (a0 := (1875, .inl (fun _ => 0))) C hP hD hS 0 rfl rfl (fun _ _ h => h) k_225 (fun _ => rfl) (by decide) (N' := 1875) (by decide) (by decide) (by decide) (by decide) d_X9_init_17 (fun q_2 H hP hD hS => ?_)
  have hP : va_P D vwCl [(h0, eO 9 [.ref q_1, .null, .null, .null, .int 0, .null, .int 0, .int 0, .int 0, .int 0, .int 0, .int 0, .int 0, .int 0, .int 0, .int 0, .int 0, .int 0, .int 0, .null, .null, .null, .null, .null, .int 0, .null, .null, .null, .int 0, .int 0, .null, .null, .int 0, .null, .int 0, .int 0, .null, .null, .null, .null]), (q_1, eI (ty 0) 1875 (fun _ => 0)), (q_2, eI (ty 0) 1875 (fun _ => 0))] H := hP
  have hD : va_D A [(h0, eO 9 [.ref q_1, .null, .null, .null, .int 0, .null, .int 0, .int 0, .int 0, .int 0, .int 0, .int 0, .int 0, .int 0, .int 0, .int 0, .int 0, .int 0, .int 0, .null, .null, .null, .null, .null, .int 0, .null, .null, .null, .int 0, .int 0, .null, .null, .int 0, .null, .int 0, .int 0, .null, .null, .null, .null]), (q_1, eI (ty 0) 1875 (fun _ => 0)), (q_2, eI (ty 0) 1875 (fun _ => 0))] := hD
  refine r_putF (w := [(h0, eO 9 [.ref q_1, .ref q_2, .null, .null, .int 0, .null, .int 0, .int 0, .int 0, .int 0, .int 0, .int 0, .int 0, .int 0, .int 0, .int 0, .int 0, .int 0, .int 0, .null, .null, .null, .null, .null, .int 0, .null, .null, .null, .int 0, .int 0, .null, .null, .int 0, .null, .int 0, .int 0, .null, .null, .null, .null]), (q_1, eI (ty 0) 1875 (fun _ => 0)), (q_2, eI (ty 0) 1875 (fun _ => 0))]) C hP hD hS 0 rfl rfl lay_X9 tok_X9 nmo_X9 1 (by decide) k_1546 rfl rfl rfl rfl (nle rfl) rfl d_X9_init_19 (fun H locs hP hD hS => ?_)
  refine lv_aload_n hx hb d_X9_init_22 rfl (lv_at hl 0 rfl) ?_
  refine lv_sipush (v := 5625) hx hb d_X9_init_23 (by decide) ?_
  refine r_newa (a0 := (5625, .inl (fun _ => 0))) C hP hD hS 0 rfl rfl (fun _ _ h => h) k_225 (fun _ => rfl) (by decide) (N' := 5625) (by decide) (by decide) (by decide) (by decide) d_X9_init_26 (fun q_3 H hP hD hS => ?_)
  have hP : va_P D vwCl [(h0, eO 9 [.ref q_1, .ref q_2, .null, .null, .int 0, .null, .int 0, .int 0, .int 0, .int 0, .int 0, .int 0, .int 0, .int 0, .int 0, .int 0, .int 0, .int 0, .int 0, .null, .null, .null, .null, .null, .int 0, .null, .null, .null, .int 0, .int 0, .null, .null, .int 0, .null, .int 0, .int 0, .null, .null, .null, .null]), (q_1, eI (ty 0) 1875 (fun _ => 0)), (q_2, eI (ty 0) 1875 (fun _ => 0)), (q_3, eI (ty 0) 5625 (fun _ => 0))] H := hP
  have hD : va_D A [(h0, eO 9 [.ref q_1, .ref q_2, .null, .null, .int 0, .null, .int 0, .int 0, .int 0, .int 0, .int 0, .int 0, .int 0, .int 0, .int 0, .int 0, .int 0, .int 0, .int 0, .null, .null, .null, .null, .null, .int 0, .null, .null, .null, .int 0, .int 0, .null, .null, .int 0, .null, .int 0, .int 0, .null, .null, .null, .null]), (q_1, eI (ty 0) 1875 (fun _ => 0)), (q_2, eI (ty 0) 1875 (fun _ => 0)), (q_3, eI (ty 0) 5625 (fun _ => 0))] := hD
  refine r_putF (w := [(h0, eO 9 [.ref q_1, .ref q_2, .ref q_3, .null, .int 0, .null, .int 0, .int 0, .int 0, .int 0, .int 0, .int 0, .int 0, .int 0, .int 0, .int 0, .int 0, .int 0, .int 0, .null, .null, .null, .null, .null, .int 0, .null, .null, .null, .int 0, .int 0, .null, .null, .int 0, .null, .int 0, .int 0, .null, .null, .null, .null]), (q_1, eI (ty 0) 1875 (fun _ => 0)), (q_2, eI (ty 0) 1875 (fun _ => 0)), (q_3, eI (ty 0) 5625 (fun _ => 0))]) C hP hD hS 0 rfl rfl lay_X9 tok_X9 nmo_X9 2 (by decide) k_1547 rfl rfl rfl rfl (nle rfl) rfl d_X9_init_28 (fun H locs hP hD hS => ?_)
  refine lv_aload_n hx hb d_X9_init_31 rfl (lv_at hl 0 rfl) ?_
  refine lv_iconst (v := 3) hx hb d_X9_init_32 (by decide) ?_
  refine r_newa (a0 := (3, .inl (fun _ => 0))) C hP hD hS 2 rfl rfl (fun _ _ h => h) k_1666 (fun _ => rfl) (by decide) (N' := 3) (by decide) (by decide) (by decide) (by decide) d_X9_init_33 (fun q_4 H hP hD hS => ?_)
  have hP : va_P D vwCl [(h0, eO 9 [.ref q_1, .ref q_2, .ref q_3, .null, .int 0, .null, .int 0, .int 0, .int 0, .int 0, .int 0, .int 0, .int 0, .int 0, .int 0, .int 0, .int 0, .int 0, .int 0, .null, .null, .null, .null, .null, .int 0, .null, .null, .null, .int 0, .int 0, .null, .null, .int 0, .null, .int 0, .int 0, .null, .null, .null, .null]), (q_1, eI (ty 0) 1875 (fun _ => 0)), (q_2, eI (ty 0) 1875 (fun _ => 0)), (q_3, eI (ty 0) 5625 (fun _ => 0)), (q_4, eI (ty 2) 3 (fun _ => 0))] H := hP
  have hD : va_D A [(h0, eO 9 [.ref q_1, .ref q_2, .ref q_3, .null, .int 0, .null, .int 0, .int 0, .int 0, .int 0, .int 0, .int 0, .int 0, .int 0, .int 0, .int 0, .int 0, .int 0, .int 0, .null, .null, .null, .null, .null, .int 0, .null, .null, .null, .int 0, .int 0, .null, .null, .int 0, .null, .int 0, .int 0, .null, .null, .null, .null]), (q_1, eI (ty 0) 1875 (fun _ => 0)), (q_2, eI (ty 0) 1875 (fun _ => 0)), (q_3, eI (ty 0) 5625 (fun _ => 0)), (q_4, eI (ty 2) 3 (fun _ => 0))] := hD
  refine r_putF (w := [(h0, eO 9 [.ref q_1, .ref q_2, .ref q_3, .ref q_4, .int 0, .null, .int 0, .int 0, .int 0, .int 0, .int 0, .int 0, .int 0, .int 0, .int 0, .int 0, .int 0, .int 0, .int 0, .null, .null, .null, .null, .null, .int 0, .null, .null, .null, .int 0, .int 0, .null, .null, .int 0, .null, .int 0, .int 0, .null, .null, .null, .null]), (q_1, eI (ty 0) 1875 (fun _ => 0)), (q_2, eI (ty 0) 1875 (fun _ => 0)), (q_3, eI (ty 0) 5625 (fun _ => 0)), (q_4, eI (ty 2) 3 (fun _ => 0))]) C hP hD hS 0 rfl rfl lay_X9 tok_X9 nmo_X9 3 (by decide) k_1548 rfl rfl rfl rfl (nle rfl) rfl d_X9_init_35 (fun H locs hP hD hS => ?_)
  refine lv_aload_n hx hb d_X9_init_38 rfl (lv_at hl 0 rfl) ?_
  refine lv_sipush (v := 900) hx hb d_X9_init_39 (by decide) ?_
  refine r_newa (a0 := (900, .inl (fun _ => 0))) C hP hD hS 0 rfl rfl (fun _ _ h => h) k_225 (fun _ => rfl) (by decide) (N' := 900) (by decide) (by decide) (by decide) (by decide) d_X9_init_42 (fun q_5 H hP hD hS => ?_)
  have hP : va_P D vwCl [(h0, eO 9 [.ref q_1, .ref q_2, .ref q_3, .ref q_4, .int 0, .null, .int 0, .int 0, .int 0, .int 0, .int 0, .int 0, .int 0, .int 0, .int 0, .int 0, .int 0, .int 0, .int 0, .null, .null, .null, .null, .null, .int 0, .null, .null, .null, .int 0, .int 0, .null, .null, .int 0, .null, .int 0, .int 0, .null, .null, .null, .null]), (q_1, eI (ty 0) 1875 (fun _ => 0)), (q_2, eI (ty 0) 1875 (fun _ => 0)), (q_3, eI (ty 0) 5625 (fun _ => 0)), (q_4, eI (ty 2) 3 (fun _ => 0)), (q_5, eI (ty 0) 900 (fun _ => 0))] H := hP
  have hD : va_D A [(h0, eO 9 [.ref q_1, .ref q_2, .ref q_3, .ref q_4, .int 0, .null, .int 0, .int 0, .int 0, .int 0, .int 0, .int 0, .int 0, .int 0, .int 0, .int 0, .int 0, .int 0, .int 0, .null, .null, .null, .null, .null, .int 0, .null, .null, .null, .int 0, .int 0, .null, .null, .int 0, .null, .int 0, .int 0, .null, .null, .null, .null]), (q_1, eI (ty 0) 1875 (fun _ => 0)), (q_2, eI (ty 0) 1875 (fun _ => 0)), (q_3, eI (ty 0) 5625 (fun _ => 0)), (q_4, eI (ty 2) 3 (fun _ => 0)), (q_5, eI (ty 0) 900 (fun _ => 0))] := hD
  refine r_putF (w := [(h0, eO 9 [.ref q_1, .ref q_2, .ref q_3, .ref q_4, .int 0, .ref q_5, .int 0, .int 0, .int 0, .int 0, .int 0, .int 0, .int 0, .int 0, .int 0, .int 0, .int 0, .int 0, .int 0, .null, .null, .null, .null, .null, .int 0, .null, .null, .null, .int 0, .int 0, .null, .null, .int 0, .null, .int 0, .int 0, .null, .null, .null, .null]), (q_1, eI (ty 0) 1875 (fun _ => 0)), (q_2, eI (ty 0) 1875 (fun _ => 0)), (q_3, eI (ty 0) 5625 (fun _ => 0)), (q_4, eI (ty 2) 3 (fun _ => 0)), (q_5, eI (ty 0) 900 (fun _ => 0))]) C hP hD hS 0 rfl rfl lay_X9 tok_X9 nmo_X9 5 (by decide) k_1550 rfl rfl rfl rfl (nle rfl) rfl d_X9_init_44 (fun H locs hP hD hS => ?_)
  refine lv_aload_n hx hb d_X9_init_47 rfl (lv_at hl 0 rfl) ?_
  refine lv_iconst (v := (-1)) hx hb d_X9_init_48 (by decide) ?_
  refine r_put (w := [(h0, eO 9 [.ref q_1, .ref q_2, .ref q_3, .ref q_4, .int 0, .ref q_5, .int 0, .int 0, .int 0, .int 0, .int 0, .int 0, .int 0, .int 0, .int 0, .int (-1), .int 0, .int 0, .int 0, .null, .null, .null, .null, .null, .int 0, .null, .null, .null, .int 0, .int 0, .null, .null, .int 0, .null, .int 0, .int 0, .null, .null, .null, .null]), (q_1, eI (ty 0) 1875 (fun _ => 0)), (q_2, eI (ty 0) 1875 (fun _ => 0)), (q_3, eI (ty 0) 5625 (fun _ => 0)), (q_4, eI (ty 2) 3 (fun _ => 0)), (q_5, eI (ty 0) 900 (fun _ => 0))]) C hP hD hS 0 rfl rfl lay_X9 tok_X9 nmo_X9 15 (by decide) k_1560 rfl rfl rfl (nle rfl) rfl d_X9_init_49 (fun H locs hP hD hS => ?_)
  refine lv_aload_n hx hb d_X9_init_52 rfl (lv_at hl 0 rfl) ?_
  refine lv_bipush (v := 64) hx hb d_X9_init_53 (by decide) ?_
  refine r_newa (a0 := (64, .inl (fun _ => 0))) C hP hD hS 0 rfl rfl (fun _ _ h => h) k_225 (fun _ => rfl) (by decide) (N' := 64) (by decide) (by decide) (by decide) (by decide) d_X9_init_55 (fun q_6 H hP hD hS => ?_)
  have hP : va_P D vwCl [(h0, eO 9 [.ref q_1, .ref q_2, .ref q_3, .ref q_4, .int 0, .ref q_5, .int 0, .int 0, .int 0, .int 0, .int 0, .int 0, .int 0, .int 0, .int 0, .int (-1), .int 0, .int 0, .int 0, .null, .null, .null, .null, .null, .int 0, .null, .null, .null, .int 0, .int 0, .null, .null, .int 0, .null, .int 0, .int 0, .null, .null, .null, .null]), (q_1, eI (ty 0) 1875 (fun _ => 0)), (q_2, eI (ty 0) 1875 (fun _ => 0)), (q_3, eI (ty 0) 5625 (fun _ => 0)), (q_4, eI (ty 2) 3 (fun _ => 0)), (q_5, eI (ty 0) 900 (fun _ => 0)), (q_6, eI (ty 0) 64 (fun _ => 0))] H := hP
  have hD : va_D A [(h0, eO 9 [.ref q_1, .ref q_2, .ref q_3, .ref q_4, .int 0, .ref q_5, .int 0, .int 0, .int 0, .int 0, .int 0, .int 0, .int 0, .int 0, .int 0, .int (-1), .int 0, .int 0, .int 0, .null, .null, .null, .null, .null, .int 0, .null, .null, .null, .int 0, .int 0, .null, .null, .int 0, .null, .int 0, .int 0, .null, .null, .null, .null]), (q_1, eI (ty 0) 1875 (fun _ => 0)), (q_2, eI (ty 0) 1875 (fun _ => 0)), (q_3, eI (ty 0) 5625 (fun _ => 0)), (q_4, eI (ty 2) 3 (fun _ => 0)), (q_5, eI (ty 0) 900 (fun _ => 0)), (q_6, eI (ty 0) 64 (fun _ => 0))] := hD
  refine r_putF (w := [(h0, eO 9 [.ref q_1, .ref q_2, .ref q_3, .ref q_4, .int 0, .ref q_5, .int 0, .int 0, .int 0, .int 0, .int 0, .int 0, .int 0, .int 0, .int 0, .int (-1), .int 0, .int 0, .int 0, .ref q_6, .null, .null, .null, .null, .int 0, .null, .null, .null, .int 0, .int 0, .null, .null, .int 0, .null, .int 0, .int 0, .null, .null, .null, .null]), (q_1, eI (ty 0) 1875 (fun _ => 0)), (q_2, eI (ty 0) 1875 (fun _ => 0)), (q_3, eI (ty 0) 5625 (fun _ => 0)), (q_4, eI (ty 2) 3 (fun _ => 0)), (q_5, eI (ty 0) 900 (fun _ => 0)), (q_6, eI (ty 0) 64 (fun _ => 0))]) C hP hD hS 0 rfl rfl lay_X9 tok_X9 nmo_X9 19 (by decide) k_1564 rfl rfl rfl rfl (nle rfl) rfl d_X9_init_57 (fun H locs hP hD hS => ?_)
  refine lv_aload_n hx hb d_X9_init_60 rfl (lv_at hl 0 rfl) ?_
  refine lv_bipush (v := 8) hx hb d_X9_init_61 (by decide) ?_
  refine r_newa (a0 := (8, .inl (fun _ => 0))) C hP hD hS 0 rfl rfl (fun _ _ h => h) k_225 (fun _ => rfl) (by decide) (N' := 8) (by decide) (by decide) (by decide) (by decide) d_X9_init_63 (fun q_7 H hP hD hS => ?_)
  have hP : va_P D vwCl [(h0, eO 9 [.ref q_1, .ref q_2, .ref q_3, .ref q_4, .int 0, .ref q_5, .int 0, .int 0, .int 0, .int 0, .int 0, .int 0, .int 0, .int 0, .int 0, .int (-1), .int 0, .int 0, .int 0, .ref q_6, .null, .null, .null, .null, .int 0, .null, .null, .null, .int 0, .int 0, .null, .null, .int 0, .null, .int 0, .int 0, .null, .null, .null, .null]), (q_1, eI (ty 0) 1875 (fun _ => 0)), (q_2, eI (ty 0) 1875 (fun _ => 0)), (q_3, eI (ty 0) 5625 (fun _ => 0)), (q_4, eI (ty 2) 3 (fun _ => 0)), (q_5, eI (ty 0) 900 (fun _ => 0)), (q_6, eI (ty 0) 64 (fun _ => 0)), (q_7, eI (ty 0) 8 (fun _ => 0))] H := hP
  have hD : va_D A [(h0, eO 9 [.ref q_1, .ref q_2, .ref q_3, .ref q_4, .int 0, .ref q_5, .int 0, .int 0, .int 0, .int 0, .int 0, .int 0, .int 0, .int 0, .int 0, .int (-1), .int 0, .int 0, .int 0, .ref q_6, .null, .null, .null, .null, .int 0, .null, .null, .null, .int 0, .int 0, .null, .null, .int 0, .null, .int 0, .int 0, .null, .null, .null, .null]), (q_1, eI (ty 0) 1875 (fun _ => 0)), (q_2, eI (ty 0) 1875 (fun _ => 0)), (q_3, eI (ty 0) 5625 (fun _ => 0)), (q_4, eI (ty 2) 3 (fun _ => 0)), (q_5, eI (ty 0) 900 (fun _ => 0)), (q_6, eI (ty 0) 64 (fun _ => 0)), (q_7, eI (ty 0) 8 (fun _ => 0))] := hD
  refine r_putF (w := [(h0, eO 9 [.ref q_1, .ref q_2, .ref q_3, .ref q_4, .int 0, .ref q_5, .int 0, .int 0, .int 0, .int 0, .int 0, .int 0, .int 0, .int 0, .int 0, .int (-1), .int 0, .int 0, .int 0, .ref q_6, .ref q_7, .null, .null, .null, .int 0, .null, .null, .null, .int 0, .int 0, .null, .null, .int 0, .null, .int 0, .int 0, .null, .null, .null, .null]), (q_1, eI (ty 0) 1875 (fun _ => 0)), (q_2, eI (ty 0) 1875 (fun _ => 0)), (q_3, eI (ty 0) 5625 (fun _ => 0)), (q_4, eI (ty 2) 3 (fun _ => 0)), (q_5, eI (ty 0) 900 (fun _ => 0)), (q_6, eI (ty 0) 64 (fun _ => 0)), (q_7, eI (ty 0) 8 (fun _ => 0))]) C hP hD hS 0 rfl rfl lay_X9 tok_X9 nmo_X9 20 (by decide) k_1565 rfl rfl rfl rfl (nle rfl) rfl d_X9_init_65 (fun H locs hP hD hS => ?_)
  refine lv_aload_n hx hb d_X9_init_68 rfl (lv_at hl 0 rfl) ?_
  refine lv_sipush (v := 1000) hx hb d_X9_init_69 (by decide) ?_
  refine r_newa (a0 := (1000, .inl (fun _ => 0))) C hP hD hS 0 rfl rfl (fun _ _ h => h) k_225 (fun _ => rfl) (by decide) (N' := 1000) (by decide) (by decide) (by decide) (by decide) d_X9_init_72 (fun q_8 H hP hD hS => ?_)
  have hP : va_P D vwCl [(h0, eO 9 [.ref q_1, .ref q_2, .ref q_3, .ref q_4, .int 0, .ref q_5, .int 0, .int 0, .int 0, .int 0, .int 0, .int 0, .int 0, .int 0, .int 0, .int (-1), .int 0, .int 0, .int 0, .ref q_6, .ref q_7, .null, .null, .null, .int 0, .null, .null, .null, .int 0, .int 0, .null, .null, .int 0, .null, .int 0, .int 0, .null, .null, .null, .null]), (q_1, eI (ty 0) 1875 (fun _ => 0)), (q_2, eI (ty 0) 1875 (fun _ => 0)), (q_3, eI (ty 0) 5625 (fun _ => 0)), (q_4, eI (ty 2) 3 (fun _ => 0)), (q_5, eI (ty 0) 900 (fun _ => 0)), (q_6, eI (ty 0) 64 (fun _ => 0)), (q_7, eI (ty 0) 8 (fun _ => 0)), (q_8, eI (ty 0) 1000 (fun _ => 0))] H := hP
  have hD : va_D A [(h0, eO 9 [.ref q_1, .ref q_2, .ref q_3, .ref q_4, .int 0, .ref q_5, .int 0, .int 0, .int 0, .int 0, .int 0, .int 0, .int 0, .int 0, .int 0, .int (-1), .int 0, .int 0, .int 0, .ref q_6, .ref q_7, .null, .null, .null, .int 0, .null, .null, .null, .int 0, .int 0, .null, .null, .int 0, .null, .int 0, .int 0, .null, .null, .null, .null]), (q_1, eI (ty 0) 1875 (fun _ => 0)), (q_2, eI (ty 0) 1875 (fun _ => 0)), (q_3, eI (ty 0) 5625 (fun _ => 0)), (q_4, eI (ty 2) 3 (fun _ => 0)), (q_5, eI (ty 0) 900 (fun _ => 0)), (q_6, eI (ty 0) 64 (fun _ => 0)), (q_7, eI (ty 0) 8 (fun _ => 0)), (q_8, eI (ty 0) 1000 (fun _ => 0))] := hD
  refine r_putF (w := [(h0, eO 9 [.ref q_1, .ref q_2, .ref q_3, .ref q_4, .int 0, .ref q_5, .int 0, .int 0, .int 0, .int 0, .int 0, .int 0, .int 0, .int 0, .int 0, .int (-1), .int 0, .int 0, .int 0, .ref q_6, .ref q_7, .ref q_8, .null, .null, .int 0, .null, .null, .null, .int 0, .int 0, .null, .null, .int 0, .null, .int 0, .int 0, .null, .null, .null, .null]), (q_1, eI (ty 0) 1875 (fun _ => 0)), (q_2, eI (ty 0) 1875 (fun _ => 0)), (q_3, eI (ty 0) 5625 (fun _ => 0)), (q_4, eI (ty 2) 3 (fun _ => 0)), (q_5, eI (ty 0) 900 (fun _ => 0)), (q_6, eI (ty 0) 64 (fun _ => 0)), (q_7, eI (ty 0) 8 (fun _ => 0)), (q_8, eI (ty 0) 1000 (fun _ => 0))]) C hP hD hS 0 rfl rfl lay_X9 tok_X9 nmo_X9 21 (by decide) k_1566 rfl rfl rfl rfl (nle rfl) rfl d_X9_init_74 (fun H locs hP hD hS => ?_)
  refine lv_aload_n hx hb d_X9_init_77 rfl (lv_at hl 0 rfl) ?_
  refine lv_sipush (v := 8000) hx hb d_X9_init_78 (by decide) ?_
  refine r_newa (a0 := (8000, .inl (fun _ => 0))) C hP hD hS 0 rfl rfl (fun _ _ h => h) k_225 (fun _ => rfl) (by decide) (N' := 8000) (by decide) (by decide) (by decide) (by decide) d_X9_init_81 (fun q_9 H hP hD hS => ?_)
  have hP : va_P D vwCl [(h0, eO 9 [.ref q_1, .ref q_2, .ref q_3, .ref q_4, .int 0, .ref q_5, .int 0, .int 0, .int 0, .int 0, .int 0, .int 0, .int 0, .int 0, .int 0, .int (-1), .int 0, .int 0, .int 0, .ref q_6, .ref q_7, .ref q_8, .null, .null, .int 0, .null, .null, .null, .int 0, .int 0, .null, .null, .int 0, .null, .int 0, .int 0, .null, .null, .null, .null]), (q_1, eI (ty 0) 1875 (fun _ => 0)), (q_2, eI (ty 0) 1875 (fun _ => 0)), (q_3, eI (ty 0) 5625 (fun _ => 0)), (q_4, eI (ty 2) 3 (fun _ => 0)), (q_5, eI (ty 0) 900 (fun _ => 0)), (q_6, eI (ty 0) 64 (fun _ => 0)), (q_7, eI (ty 0) 8 (fun _ => 0)), (q_8, eI (ty 0) 1000 (fun _ => 0)), (q_9, eI (ty 0) 8000 (fun _ => 0))] H := hP
  have hD : va_D A [(h0, eO 9 [.ref q_1, .ref q_2, .ref q_3, .ref q_4, .int 0, .ref q_5, .int 0, .int 0, .int 0, .int 0, .int 0, .int 0, .int 0, .int 0, .int 0, .int (-1), .int 0, .int 0, .int 0, .ref q_6, .ref q_7, .ref q_8, .null, .null, .int 0, .null, .null, .null, .int 0, .int 0, .null, .null, .int 0, .null, .int 0, .int 0, .null, .null, .null, .null]), (q_1, eI (ty 0) 1875 (fun _ => 0)), (q_2, eI (ty 0) 1875 (fun _ => 0)), (q_3, eI (ty 0) 5625 (fun _ => 0)), (q_4, eI (ty 2) 3 (fun _ => 0)), (q_5, eI (ty 0) 900 (fun _ => 0)), (q_6, eI (ty 0) 64 (fun _ => 0)), (q_7, eI (ty 0) 8 (fun _ => 0)), (q_8, eI (ty 0) 1000 (fun _ => 0)), (q_9, eI (ty 0) 8000 (fun _ => 0))] := hD
  refine r_putF (w := [(h0, eO 9 [.ref q_1, .ref q_2, .ref q_3, .ref q_4, .int 0, .ref q_5, .int 0, .int 0, .int 0, .int 0, .int 0, .int 0, .int 0, .int 0, .int 0, .int (-1), .int 0, .int 0, .int 0, .ref q_6, .ref q_7, .ref q_8, .ref q_9, .null, .int 0, .null, .null, .null, .int 0, .int 0, .null, .null, .int 0, .null, .int 0, .int 0, .null, .null, .null, .null]), (q_1, eI (ty 0) 1875 (fun _ => 0)), (q_2, eI (ty 0) 1875 (fun _ => 0)), (q_3, eI (ty 0) 5625 (fun _ => 0)), (q_4, eI (ty 2) 3 (fun _ => 0)), (q_5, eI (ty 0) 900 (fun _ => 0)), (q_6, eI (ty 0) 64 (fun _ => 0)), (q_7, eI (ty 0) 8 (fun _ => 0)), (q_8, eI (ty 0) 1000 (fun _ => 0)), (q_9, eI (ty 0) 8000 (fun _ => 0))]) C hP hD hS 0 rfl rfl lay_X9 tok_X9 nmo_X9 22 (by decide) k_1567 rfl rfl rfl rfl (nle rfl) rfl d_X9_init_83 (fun H locs hP hD hS => ?_)
  refine lv_aload_n hx hb d_X9_init_86 rfl (lv_at hl 0 rfl) ?_
  refine lv_iconst (v := 3) hx hb d_X9_init_87 (by decide) ?_
  refine r_newa (a0 := (3, .inl (fun _ => 0))) C hP hD hS 0 rfl rfl (fun _ _ h => h) k_225 (fun _ => rfl) (by decide) (N' := 3) (by decide) (by decide) (by decide) (by decide) d_X9_init_88 (fun q_10 H hP hD hS => ?_)
  have hP : va_P D vwCl [(h0, eO 9 [.ref q_1, .ref q_2, .ref q_3, .ref q_4, .int 0, .ref q_5, .int 0, .int 0, .int 0, .int 0, .int 0, .int 0, .int 0, .int 0, .int 0, .int (-1), .int 0, .int 0, .int 0, .ref q_6, .ref q_7, .ref q_8, .ref q_9, .null, .int 0, .null, .null, .null, .int 0, .int 0, .null, .null, .int 0, .null, .int 0, .int 0, .null, .null, .null, .null]), (q_1, eI (ty 0) 1875 (fun _ => 0)), (q_2, eI (ty 0) 1875 (fun _ => 0)), (q_3, eI (ty 0) 5625 (fun _ => 0)), (q_4, eI (ty 2) 3 (fun _ => 0)), (q_5, eI (ty 0) 900 (fun _ => 0)), (q_6, eI (ty 0) 64 (fun _ => 0)), (q_7, eI (ty 0) 8 (fun _ => 0)), (q_8, eI (ty 0) 1000 (fun _ => 0)), (q_9, eI (ty 0) 8000 (fun _ => 0)), (q_10, eI (ty 0) 3 (fun _ => 0))] H := hP
  have hD : va_D A [(h0, eO 9 [.ref q_1, .ref q_2, .ref q_3, .ref q_4, .int 0, .ref q_5, .int 0, .int 0, .int 0, .int 0, .int 0, .int 0, .int 0, .int 0, .int 0, .int (-1), .int 0, .int 0, .int 0, .ref q_6, .ref q_7, .ref q_8, .ref q_9, .null, .int 0, .null, .null, .null, .int 0, .int 0, .null, .null, .int 0, .null, .int 0, .int 0, .null, .null, .null, .null]), (q_1, eI (ty 0) 1875 (fun _ => 0)), (q_2, eI (ty 0) 1875 (fun _ => 0)), (q_3, eI (ty 0) 5625 (fun _ => 0)), (q_4, eI (ty 2) 3 (fun _ => 0)), (q_5, eI (ty 0) 900 (fun _ => 0)), (q_6, eI (ty 0) 64 (fun _ => 0)), (q_7, eI (ty 0) 8 (fun _ => 0)), (q_8, eI (ty 0) 1000 (fun _ => 0)), (q_9, eI (ty 0) 8000 (fun _ => 0)), (q_10, eI (ty 0) 3 (fun _ => 0))] := hD
  refine r_putF (w := [(h0, eO 9 [.ref q_1, .ref q_2, .ref q_3, .ref q_4, .int 0, .ref q_5, .int 0, .int 0, .int 0, .int 0, .int 0, .int 0, .int 0, .int 0, .int 0, .int (-1), .int 0, .int 0, .int 0, .ref q_6, .ref q_7, .ref q_8, .ref q_9, .ref q_10, .int 0, .null, .null, .null, .int 0, .int 0, .null, .null, .int 0, .null, .int 0, .int 0, .null, .null, .null, .null]), (q_1, eI (ty 0) 1875 (fun _ => 0)), (q_2, eI (ty 0) 1875 (fun _ => 0)), (q_3, eI (ty 0) 5625 (fun _ => 0)), (q_4, eI (ty 2) 3 (fun _ => 0)), (q_5, eI (ty 0) 900 (fun _ => 0)), (q_6, eI (ty 0) 64 (fun _ => 0)), (q_7, eI (ty 0) 8 (fun _ => 0)), (q_8, eI (ty 0) 1000 (fun _ => 0)), (q_9, eI (ty 0) 8000 (fun _ => 0)), (q_10, eI (ty 0) 3 (fun _ => 0))]) C hP hD hS 0 rfl rfl lay_X9 tok_X9 nmo_X9 23 (by decide) k_1568 rfl rfl rfl rfl (nle rfl) rfl d_X9_init_90 (fun H locs hP hD hS => ?_)
  refine lv_aload_n hx hb d_X9_init_93 rfl (lv_at hl 0 rfl) ?_
  refine lv_sipush (v := 9000) hx hb d_X9_init_94 (by decide) ?_
  refine r_newa (a0 := (9000, .inl (fun _ => 0))) C hP hD hS 0 rfl rfl (fun _ _ h => h) k_225 (fun _ => rfl) (by decide) (N' := 9000) (by decide) (by decide) (by decide) (by decide) d_X9_init_97 (fun q_11 H hP hD hS => ?_)
  have hP : va_P D vwCl [(h0, eO 9 [.ref q_1, .ref q_2, .ref q_3, .ref q_4, .int 0, .ref q_5, .int 0, .int 0, .int 0, .int 0, .int 0, .int 0, .int 0, .int 0, .int 0, .int (-1), .int 0, .int 0, .int 0, .ref q_6, .ref q_7, .ref q_8, .ref q_9, .ref q_10, .int 0, .null, .null, .null, .int 0, .int 0, .null, .null, .int 0, .null, .int 0, .int 0, .null, .null, .null, .null]), (q_1, eI (ty 0) 1875 (fun _ => 0)), (q_2, eI (ty 0) 1875 (fun _ => 0)), (q_3, eI (ty 0) 5625 (fun _ => 0)), (q_4, eI (ty 2) 3 (fun _ => 0)), (q_5, eI (ty 0) 900 (fun _ => 0)), (q_6, eI (ty 0) 64 (fun _ => 0)), (q_7, eI (ty 0) 8 (fun _ => 0)), (q_8, eI (ty 0) 1000 (fun _ => 0)), (q_9, eI (ty 0) 8000 (fun _ => 0)), (q_10, eI (ty 0) 3 (fun _ => 0)), (q_11, eI (ty 0) 9000 (fun _ => 0))] H := hP
  have hD : va_D A [(h0, eO 9 [.ref q_1, .ref q_2, .ref q_3, .ref q_4, .int 0, .ref q_5, .int 0, .int 0, .int 0, .int 0, .int 0, .int 0, .int 0, .int 0, .int 0, .int (-1), .int 0, .int 0, .int 0, .ref q_6, .ref q_7, .ref q_8, .ref q_9, .ref q_10, .int 0, .null, .null, .null, .int 0, .int 0, .null, .null, .int 0, .null, .int 0, .int 0, .null, .null, .null, .null]), (q_1, eI (ty 0) 1875 (fun _ => 0)), (q_2, eI (ty 0) 1875 (fun _ => 0)), (q_3, eI (ty 0) 5625 (fun _ => 0)), (q_4, eI (ty 2) 3 (fun _ => 0)), (q_5, eI (ty 0) 900 (fun _ => 0)), (q_6, eI (ty 0) 64 (fun _ => 0)), (q_7, eI (ty 0) 8 (fun _ => 0)), (q_8, eI (ty 0) 1000 (fun _ => 0)), (q_9, eI (ty 0) 8000 (fun _ => 0)), (q_10, eI (ty 0) 3 (fun _ => 0)), (q_11, eI (ty 0) 9000 (fun _ => 0))] := hD
  refine r_putF (w := [(h0, eO 9 [.ref q_1, .ref q_2, .ref q_3, .ref q_4, .int 0, .ref q_5, .int 0, .int 0, .int 0, .int 0, .int 0, .int 0, .int 0, .int 0, .int 0, .int (-1), .int 0, .int 0, .int 0, .ref q_6, .ref q_7, .ref q_8, .ref q_9, .ref q_10, .int 0, .ref q_11, .null, .null, .int 0, .int 0, .null, .null, .int 0, .null, .int 0, .int 0, .null, .null, .null, .null]), (q_1, eI (ty 0) 1875 (fun _ => 0)), (q_2, eI (ty 0) 1875 (fun _ => 0)), (q_3, eI (ty 0) 5625 (fun _ => 0)), (q_4, eI (ty 2) 3 (fun _ => 0)), (q_5, eI (ty 0) 900 (fun _ => 0)), (q_6, eI (ty 0) 64 (fun _ => 0)), (q_7, eI (ty 0) 8 (fun _ => 0)), (q_8, eI (ty 0) 1000 (fun _ => 0)), (q_9, eI (ty 0) 8000 (fun _ => 0)), (q_10, eI (ty 0) 3 (fun _ => 0)), (q_11, eI (ty 0) 9000 (fun _ => 0))]) C hP hD hS 0 rfl rfl lay_X9 tok_X9 nmo_X9 25 (by decide) k_1570 rfl rfl rfl rfl (nle rfl) rfl d_X9_init_99 (fun H locs hP hD hS => ?_)
  refine lv_aload_n hx hb d_X9_init_102 rfl (lv_at hl 0 rfl) ?_
  refine lv_sipush (v := 9000) hx hb d_X9_init_103 (by decide) ?_
  refine r_newa (a0 := (9000, .inl (fun _ => 0))) C hP hD hS 0 rfl rfl (fun _ _ h => h) k_225 (fun _ => rfl) (by decide) (N' := 9000) (by decide) (by decide) (by decide) (by decide) d_X9_init_106 (fun q_12 H hP hD hS => ?_)
  have hP : va_P D vwCl [(h0, eO 9 [.ref q_1, .ref q_2, .ref q_3, .ref q_4, .int 0, .ref q_5, .int 0, .int 0, .int 0, .int 0, .int 0, .int 0, .int 0, .int 0, .int 0, .int (-1), .int 0, .int 0, .int 0, .ref q_6, .ref q_7, .ref q_8, .ref q_9, .ref q_10, .int 0, .ref q_11, .null, .null, .int 0, .int 0, .null, .null, .int 0, .null, .int 0, .int 0, .null, .null, .null, .null]), (q_1, eI (ty 0) 1875 (fun _ => 0)), (q_2, eI (ty 0) 1875 (fun _ => 0)), (q_3, eI (ty 0) 5625 (fun _ => 0)), (q_4, eI (ty 2) 3 (fun _ => 0)), (q_5, eI (ty 0) 900 (fun _ => 0)), (q_6, eI (ty 0) 64 (fun _ => 0)), (q_7, eI (ty 0) 8 (fun _ => 0)), (q_8, eI (ty 0) 1000 (fun _ => 0)), (q_9, eI (ty 0) 8000 (fun _ => 0)), (q_10, eI (ty 0) 3 (fun _ => 0)), (q_11, eI (ty 0) 9000 (fun _ => 0)), (q_12, eI (ty 0) 9000 (fun _ => 0))] H := hP
  have hD : va_D A [(h0, eO 9 [.ref q_1, .ref q_2, .ref q_3, .ref q_4, .int 0, .ref q_5, .int 0, .int 0, .int 0, .int 0, .int 0, .int 0, .int 0, .int 0, .int 0, .int (-1), .int 0, .int 0, .int 0, .ref q_6, .ref q_7, .ref q_8, .ref q_9, .ref q_10, .int 0, .ref q_11, .null, .null, .int 0, .int 0, .null, .null, .int 0, .null, .int 0, .int 0, .null, .null, .null, .null]), (q_1, eI (ty 0) 1875 (fun _ => 0)), (q_2, eI (ty 0) 1875 (fun _ => 0)), (q_3, eI (ty 0) 5625 (fun _ => 0)), (q_4, eI (ty 2) 3 (fun _ => 0)), (q_5, eI (ty 0) 900 (fun _ => 0)), (q_6, eI (ty 0) 64 (fun _ => 0)), (q_7, eI (ty 0) 8 (fun _ => 0)), (q_8, eI (ty 0) 1000 (fun _ => 0)), (q_9, eI (ty 0) 8000 (fun _ => 0)), (q_10, eI (ty 0) 3 (fun _ => 0)), (q_11, eI (ty 0) 9000 (fun _ => 0)), (q_12, eI (ty 0) 9000 (fun _ => 0))] := hD
  refine r_putF (w := [(h0, eO 9 [.ref q_1, .ref q_2, .ref q_3, .ref q_4, .int 0, .ref q_5, .int 0, .int 0, .int 0, .int 0, .int 0, .int 0, .int 0, .int 0, .int 0, .int (-1), .int 0, .int 0, .int 0, .ref q_6, .ref q_7, .ref q_8, .ref q_9, .ref q_10, .int 0, .ref q_11, .ref q_12, .null, .int 0, .int 0, .null, .null, .int 0, .null, .int 0, .int 0, .null, .null, .null, .null]), (q_1, eI (ty 0) 1875 (fun _ => 0)), (q_2, eI (ty 0) 1875 (fun _ => 0)), (q_3, eI (ty 0) 5625 (fun _ => 0)), (q_4, eI (ty 2) 3 (fun _ => 0)), (q_5, eI (ty 0) 900 (fun _ => 0)), (q_6, eI (ty 0) 64 (fun _ => 0)), (q_7, eI (ty 0) 8 (fun _ => 0)), (q_8, eI (ty 0) 1000 (fun _ => 0)), (q_9, eI (ty 0) 8000 (fun _ => 0)), (q_10, eI (ty 0) 3 (fun _ => 0)), (q_11, eI (ty 0) 9000 (fun _ => 0)), (q_12, eI (ty 0) 9000 (fun _ => 0))]) C hP hD hS 0 rfl rfl lay_X9 tok_X9 nmo_X9 26 (by decide) k_1571 rfl rfl rfl rfl (nle rfl) rfl d_X9_init_108 (fun H locs hP hD hS => ?_)
  refine lv_aload_n hx hb d_X9_init_111 rfl (lv_at hl 0 rfl) ?_
  refine lv_sipush (v := 9001) hx hb d_X9_init_112 (by decide) ?_
  refine r_newa (a0 := (9001, .inl (fun _ => 0))) C hP hD hS 0 rfl rfl (fun _ _ h => h) k_225 (fun _ => rfl) (by decide) (N' := 9001) (by decide) (by decide) (by decide) (by decide) d_X9_init_115 (fun q_13 H hP hD hS => ?_)
  have hP : va_P D vwCl [(h0, eO 9 [.ref q_1, .ref q_2, .ref q_3, .ref q_4, .int 0, .ref q_5, .int 0, .int 0, .int 0, .int 0, .int 0, .int 0, .int 0, .int 0, .int 0, .int (-1), .int 0, .int 0, .int 0, .ref q_6, .ref q_7, .ref q_8, .ref q_9, .ref q_10, .int 0, .ref q_11, .ref q_12, .null, .int 0, .int 0, .null, .null, .int 0, .null, .int 0, .int 0, .null, .null, .null, .null]), (q_1, eI (ty 0) 1875 (fun _ => 0)), (q_2, eI (ty 0) 1875 (fun _ => 0)), (q_3, eI (ty 0) 5625 (fun _ => 0)), (q_4, eI (ty 2) 3 (fun _ => 0)), (q_5, eI (ty 0) 900 (fun _ => 0)), (q_6, eI (ty 0) 64 (fun _ => 0)), (q_7, eI (ty 0) 8 (fun _ => 0)), (q_8, eI (ty 0) 1000 (fun _ => 0)), (q_9, eI (ty 0) 8000 (fun _ => 0)), (q_10, eI (ty 0) 3 (fun _ => 0)), (q_11, eI (ty 0) 9000 (fun _ => 0)), (q_12, eI (ty 0) 9000 (fun _ => 0)), (q_13, eI (ty 0) 9001 (fun _ => 0))] H := hP
  have hD : va_D A [(h0, eO 9 [.ref q_1, .ref q_2, .ref q_3, .ref q_4, .int 0, .ref q_5, .int 0, .int 0, .int 0, .int 0, .int 0, .int 0, .int 0, .int 0, .int 0, .int (-1), .int 0, .int 0, .int 0, .ref q_6, .ref q_7, .ref q_8, .ref q_9, .ref q_10, .int 0, .ref q_11, .ref q_12, .null, .int 0, .int 0, .null, .null, .int 0, .null, .int 0, .int 0, .null, .null, .null, .null]), (q_1, eI (ty 0) 1875 (fun _ => 0)), (q_2, eI (ty 0) 1875 (fun _ => 0)), (q_3, eI (ty 0) 5625 (fun _ => 0)), (q_4, eI (ty 2) 3 (fun _ => 0)), (q_5, eI (ty 0) 900 (fun _ => 0)), (q_6, eI (ty 0) 64 (fun _ => 0)), (q_7, eI (ty 0) 8 (fun _ => 0)), (q_8, eI (ty 0) 1000 (fun _ => 0)), (q_9, eI (ty 0) 8000 (fun _ => 0)), (q_10, eI (ty 0) 3 (fun _ => 0)), (q_11, eI (ty 0) 9000 (fun _ => 0)), (q_12, eI (ty 0) 9000 (fun _ => 0)), (q_13, eI (ty 0) 9001 (fun _ => 0))] := hD
  refine r_putF (w := [(h0, eO 9 [.ref q_1, .ref q_2, .ref q_3, .ref q_4, .int 0, .ref q_5, .int 0, .int 0, .int 0, .int 0, .int 0, .int 0, .int 0, .int 0, .int 0, .int (-1), .int 0, .int 0, .int 0, .ref q_6, .ref q_7, .ref q_8, .ref q_9, .ref q_10, .int 0, .ref q_11, .ref q_12, .ref q_13, .int 0, .int 0, .null, .null, .int 0, .null, .int 0, .int 0, .null, .null, .null, .null]), (q_1, eI (ty 0) 1875 (fun _ => 0)), (q_2, eI (ty 0) 1875 (fun _ => 0)), (q_3, eI (ty 0) 5625 (fun _ => 0)), (q_4, eI (ty 2) 3 (fun _ => 0)), (q_5, eI (ty 0) 900 (fun _ => 0)), (q_6, eI (ty 0) 64 (fun _ => 0)), (q_7, eI (ty 0) 8 (fun _ => 0)), (q_8, eI (ty 0) 1000 (fun _ => 0)), (q_9, eI (ty 0) 8000 (fun _ => 0)), (q_10, eI (ty 0) 3 (fun _ => 0)), (q_11, eI (ty 0) 9000 (fun _ => 0)), (q_12, eI (ty 0) 9000 (fun _ => 0)), (q_13, eI (ty 0) 9001 (fun _ => 0))]) C hP hD hS 0 rfl rfl lay_X9 tok_X9 nmo_X9 27 (by decide) k_1572 rfl rfl rfl rfl (nle rfl) rfl d_X9_init_117 (fun H locs hP hD hS => ?_)
  refine lv_aload_n hx hb d_X9_init_120 rfl (lv_at hl 0 rfl) ?_
  refine lv_bipush (v := 8) hx hb d_X9_init_121 (by decide) ?_
  refine r_newa (a0 := (8, .inl (fun _ => 0))) C hP hD hS 0 rfl rfl (fun _ _ h => h) k_225 (fun _ => rfl) (by decide) (N' := 8) (by decide) (by decide) (by decide) (by decide) d_X9_init_123 (fun q_14 H hP hD hS => ?_)
  have hP : va_P D vwCl [(h0, eO 9 [.ref q_1, .ref q_2, .ref q_3, .ref q_4, .int 0, .ref q_5, .int 0, .int 0, .int 0, .int 0, .int 0, .int 0, .int 0, .int 0, .int 0, .int (-1), .int 0, .int 0, .int 0, .ref q_6, .ref q_7, .ref q_8, .ref q_9, .ref q_10, .int 0, .ref q_11, .ref q_12, .ref q_13, .int 0, .int 0, .null, .null, .int 0, .null, .int 0, .int 0, .null, .null, .null, .null]), (q_1, eI (ty 0) 1875 (fun _ => 0)), (q_2, eI (ty 0) 1875 (fun _ => 0)), (q_3, eI (ty 0) 5625 (fun _ => 0)), (q_4, eI (ty 2) 3 (fun _ => 0)), (q_5, eI (ty 0) 900 (fun _ => 0)), (q_6, eI (ty 0) 64 (fun _ => 0)), (q_7, eI (ty 0) 8 (fun _ => 0)), (q_8, eI (ty 0) 1000 (fun _ => 0)), (q_9, eI (ty 0) 8000 (fun _ => 0)), (q_10, eI (ty 0) 3 (fun _ => 0)), (q_11, eI (ty 0) 9000 (fun _ => 0)), (q_12, eI (ty 0) 9000 (fun _ => 0)), (q_13, eI (ty 0) 9001 (fun _ => 0)), (q_14, eI (ty 0) 8 (fun _ => 0))] H := hP
  have hD : va_D A [(h0, eO 9 [.ref q_1, .ref q_2, .ref q_3, .ref q_4, .int 0, .ref q_5, .int 0, .int 0, .int 0, .int 0, .int 0, .int 0, .int 0, .int 0, .int 0, .int (-1), .int 0, .int 0, .int 0, .ref q_6, .ref q_7, .ref q_8, .ref q_9, .ref q_10, .int 0, .ref q_11, .ref q_12, .ref q_13, .int 0, .int 0, .null, .null, .int 0, .null, .int 0, .int 0, .null, .null, .null, .null]), (q_1, eI (ty 0) 1875 (fun _ => 0)), (q_2, eI (ty 0) 1875 (fun _ => 0)), (q_3, eI (ty 0) 5625 (fun _ => 0)), (q_4, eI (ty 2) 3 (fun _ => 0)), (q_5, eI (ty 0) 900 (fun _ => 0)), (q_6, eI (ty 0) 64 (fun _ => 0)), (q_7, eI (ty 0) 8 (fun _ => 0)), (q_8, eI (ty 0) 1000 (fun _ => 0)), (q_9, eI (ty 0) 8000 (fun _ => 0)), (q_10, eI (ty 0) 3 (fun _ => 0)), (q_11, eI (ty 0) 9000 (fun _ => 0)), (q_12, eI (ty 0) 9000 (fun _ => 0)), (q_13, eI (ty 0) 9001 (fun _ => 0)), (q_14, eI (ty 0) 8 (fun _ => 0))] := hD
  refine r_putF (w := [(h0, eO 9 [.ref q_1, .ref q_2, .ref q_3, .ref q_4, .int 0, .ref q_5, .int 0, .int 0, .int 0, .int 0, .int 0, .int 0, .int 0, .int 0, .int 0, .int (-1), .int 0, .int 0, .int 0, .ref q_6, .ref q_7, .ref q_8, .ref q_9, .ref q_10, .int 0, .ref q_11, .ref q_12, .ref q_13, .int 0, .int 0, .ref q_14, .null, .int 0, .null, .int 0, .int 0, .null, .null, .null, .null]), (q_1, eI (ty 0) 1875 (fun _ => 0)), (q_2, eI (ty 0) 1875 (fun _ => 0)), (q_3, eI (ty 0) 5625 (fun _ => 0)), (q_4, eI (ty 2) 3 (fun _ => 0)), (q_5, eI (ty 0) 900 (fun _ => 0)), (q_6, eI (ty 0) 64 (fun _ => 0)), (q_7, eI (ty 0) 8 (fun _ => 0)), (q_8, eI (ty 0) 1000 (fun _ => 0)), (q_9, eI (ty 0) 8000 (fun _ => 0)), (q_10, eI (ty 0) 3 (fun _ => 0)), (q_11, eI (ty 0) 9000 (fun _ => 0)), (q_12, eI (ty 0) 9000 (fun _ => 0)), (q_13, eI (ty 0) 9001 (fun _ => 0)), (q_14, eI (ty 0) 8 (fun _ => 0))]) C hP hD hS 0 rfl rfl lay_X9 tok_X9 nmo_X9 30 (by decide) k_1575 rfl rfl rfl rfl (nle rfl) rfl d_X9_init_125 (fun H locs hP hD hS => ?_)
  refine lv_aload_n hx hb d_X9_init_128 rfl (lv_at hl 0 rfl) ?_
  refine lv_sipush (v := 1000) hx hb d_X9_init_129 (by decide) ?_
  refine r_newa (a0 := (1000, .inl (fun _ => 0))) C hP hD hS 0 rfl rfl (fun _ _ h => h) k_225 (fun _ => rfl) (by decide) (N' := 1000) (by decide) (by decide) (by decide) (by decide) d_X9_init_132 (fun q_15 H hP hD hS => ?_)
  have hP : va_P D vwCl [(h0, eO 9 [.ref q_1, .ref q_2, .ref q_3, .ref q_4, .int 0, .ref q_5, .int 0, .int 0, .int 0, .int 0, .int 0, .int 0, .int 0, .int 0, .int 0, .int (-1), .int 0, .int 0, .int 0, .ref q_6, .ref q_7, .ref q_8, .ref q_9, .ref q_10, .int 0, .ref q_11, .ref q_12, .ref q_13, .int 0, .int 0, .ref q_14, .null, .int 0, .null, .int 0, .int 0, .null, .null, .null, .null]), (q_1, eI (ty 0) 1875 (fun _ => 0)), (q_2, eI (ty 0) 1875 (fun _ => 0)), (q_3, eI (ty 0) 5625 (fun _ => 0)), (q_4, eI (ty 2) 3 (fun _ => 0)), (q_5, eI (ty 0) 900 (fun _ => 0)), (q_6, eI (ty 0) 64 (fun _ => 0)), (q_7, eI (ty 0) 8 (fun _ => 0)), (q_8, eI (ty 0) 1000 (fun _ => 0)), (q_9, eI (ty 0) 8000 (fun _ => 0)), (q_10, eI (ty 0) 3 (fun _ => 0)), (q_11, eI (ty 0) 9000 (fun _ => 0)), (q_12, eI (ty 0) 9000 (fun _ => 0)), (q_13, eI (ty 0) 9001 (fun _ => 0)), (q_14, eI (ty 0) 8 (fun _ => 0)), (q_15, eI (ty 0) 1000 (fun _ => 0))] H := hP
  have hD : va_D A [(h0, eO 9 [.ref q_1, .ref q_2, .ref q_3, .ref q_4, .int 0, .ref q_5, .int 0, .int 0, .int 0, .int 0, .int 0, .int 0, .int 0, .int 0, .int 0, .int (-1), .int 0, .int 0, .int 0, .ref q_6, .ref q_7, .ref q_8, .ref q_9, .ref q_10, .int 0, .ref q_11, .ref q_12, .ref q_13, .int 0, .int 0, .ref q_14, .null, .int 0, .null, .int 0, .int 0, .null, .null, .null, .null]), (q_1, eI (ty 0) 1875 (fun _ => 0)), (q_2, eI (ty 0) 1875 (fun _ => 0)), (q_3, eI (ty 0) 5625 (fun _ => 0)), (q_4, eI (ty 2) 3 (fun _ => 0)), (q_5, eI (ty 0) 900 (fun _ => 0)), (q_6, eI (ty 0) 64 (fun _ => 0)), (q_7, eI (ty 0) 8 (fun _ => 0)), (q_8, eI (ty 0) 1000 (fun _ => 0)), (q_9, eI (ty 0) 8000 (fun _ => 0)), (q_10, eI (ty 0) 3 (fun _ => 0)), (q_11, eI (ty 0) 9000 (fun _ => 0)), (q_12, eI (ty 0) 9000 (fun _ => 0)), (q_13, eI (ty 0) 9001 (fun _ => 0)), (q_14, eI (ty 0) 8 (fun _ => 0)), (q_15, eI (ty 0) 1000 (fun _ => 0))] := hD
  refine r_putF (w := [(h0, eO 9 [.ref q_1, .ref q_2, .ref q_3, .ref q_4, .int 0, .ref q_5, .int 0, .int 0, .int 0, .int 0, .int 0, .int 0, .int 0, .int 0, .int 0, .int (-1), .int 0, .int 0, .int 0, .ref q_6, .ref q_7, .ref q_8, .ref q_9, .ref q_10, .int 0, .ref q_11, .ref q_12, .ref q_13, .int 0, .int 0, .ref q_14, .ref q_15, .int 0, .null, .int 0, .int 0, .null, .null, .null, .null]), (q_1, eI (ty 0) 1875 (fun _ => 0)), (q_2, eI (ty 0) 1875 (fun _ => 0)), (q_3, eI (ty 0) 5625 (fun _ => 0)), (q_4, eI (ty 2) 3 (fun _ => 0)), (q_5, eI (ty 0) 900 (fun _ => 0)), (q_6, eI (ty 0) 64 (fun _ => 0)), (q_7, eI (ty 0) 8 (fun _ => 0)), (q_8, eI (ty 0) 1000 (fun _ => 0)), (q_9, eI (ty 0) 8000 (fun _ => 0)), (q_10, eI (ty 0) 3 (fun _ => 0)), (q_11, eI (ty 0) 9000 (fun _ => 0)), (q_12, eI (ty 0) 9000 (fun _ => 0)), (q_13, eI (ty 0) 9001 (fun _ => 0)), (q_14, eI (ty 0) 8 (fun _ => 0)), (q_15, eI (ty 0) 1000 (fun _ => 0))]) C hP hD hS 0 rfl rfl lay_X9 tok_X9 nmo_X9 31 (by decide) k_1576 rfl rfl rfl rfl (nle rfl) rfl d_X9_init_134 (fun H locs hP hD hS => ?_)
  refine lv_aload_n hx hb d_X9_init_137 rfl (lv_at hl 0 rfl) ?_
  refine lv_sipush (v := 1000) hx hb d_X9_init_138 (by decide) ?_
  refine r_newa (a0 := (1000, .inl (fun _ => 0))) C hP hD hS 0 rfl rfl (fun _ _ h => h) k_225 (fun _ => rfl) (by decide) (N' := 1000) (by decide) (by decide) (by decide) (by decide) d_X9_init_141 (fun q_16 H hP hD hS => ?_)
  have hP : va_P D vwCl [(h0, eO 9 [.ref q_1, .ref q_2, .ref q_3, .ref q_4, .int 0, .ref q_5, .int 0, .int 0, .int 0, .int 0, .int 0, .int 0, .int 0, .int 0, .int 0, .int (-1), .int 0, .int 0, .int 0, .ref q_6, .ref q_7, .ref q_8, .ref q_9, .ref q_10, .int 0, .ref q_11, .ref q_12, .ref q_13, .int 0, .int 0, .ref q_14, .ref q_15, .int 0, .null, .int 0, .int 0, .null, .null, .null, .null]), (q_1, eI (ty 0) 1875 (fun _ => 0)), (q_2, eI (ty 0) 1875 (fun _ => 0)), (q_3, eI (ty 0) 5625 (fun _ => 0)), (q_4, eI (ty 2) 3 (fun _ => 0)), (q_5, eI (ty 0) 900 (fun _ => 0)), (q_6, eI (ty 0) 64 (fun _ => 0)), (q_7, eI (ty 0) 8 (fun _ => 0)), (q_8, eI (ty 0) 1000 (fun _ => 0)), (q_9, eI (ty 0) 8000 (fun _ => 0)), (q_10, eI (ty 0) 3 (fun _ => 0)), (q_11, eI (ty 0) 9000 (fun _ => 0)), (q_12, eI (ty 0) 9000 (fun _ => 0)), (q_13, eI (ty 0) 9001 (fun _ => 0)), (q_14, eI (ty 0) 8 (fun _ => 0)), (q_15, eI (ty 0) 1000 (fun _ => 0)), (q_16, eI (ty 0) 1000 (fun _ => 0))] H := hP
  have hD : va_D A [(h0, eO 9 [.ref q_1, .ref q_2, .ref q_3, .ref q_4, .int 0, .ref q_5, .int 0, .int 0, .int 0, .int 0, .int 0, .int 0, .int 0, .int 0, .int 0, .int (-1), .int 0, .int 0, .int 0, .ref q_6, .ref q_7, .ref q_8, .ref q_9, .ref q_10, .int 0, .ref q_11, .ref q_12, .ref q_13, .int 0, .int 0, .ref q_14, .ref q_15, .int 0, .null, .int 0, .int 0, .null, .null, .null, .null]), (q_1, eI (ty 0) 1875 (fun _ => 0)), (q_2, eI (ty 0) 1875 (fun _ => 0)), (q_3, eI (ty 0) 5625 (fun _ => 0)), (q_4, eI (ty 2) 3 (fun _ => 0)), (q_5, eI (ty 0) 900 (fun _ => 0)), (q_6, eI (ty 0) 64 (fun _ => 0)), (q_7, eI (ty 0) 8 (fun _ => 0)), (q_8, eI (ty 0) 1000 (fun _ => 0)), (q_9, eI (ty 0) 8000 (fun _ => 0)), (q_10, eI (ty 0) 3 (fun _ => 0)), (q_11, eI (ty 0) 9000 (fun _ => 0)), (q_12, eI (ty 0) 9000 (fun _ => 0)), (q_13, eI (ty 0) 9001 (fun _ => 0)), (q_14, eI (ty 0) 8 (fun _ => 0)), (q_15, eI (ty 0) 1000 (fun _ => 0)), (q_16, eI (ty 0) 1000 (fun _ => 0))] := hD
  refine r_putF (w := [(h0, eO 9 [.ref q_1, .ref q_2, .ref q_3, .ref q_4, .int 0, .ref q_5, .int 0, .int 0, .int 0, .int 0, .int 0, .int 0, .int 0, .int 0, .int 0, .int (-1), .int 0, .int 0, .int 0, .ref q_6, .ref q_7, .ref q_8, .ref q_9, .ref q_10, .int 0, .ref q_11, .ref q_12, .ref q_13, .int 0, .int 0, .ref q_14, .ref q_15, .int 0, .ref q_16, .int 0, .int 0, .null, .null, .null, .null]), (q_1, eI (ty 0) 1875 (fun _ => 0)), (q_2, eI (ty 0) 1875 (fun _ => 0)), (q_3, eI (ty 0) 5625 (fun _ => 0)), (q_4, eI (ty 2) 3 (fun _ => 0)), (q_5, eI (ty 0) 900 (fun _ => 0)), (q_6, eI (ty 0) 64 (fun _ => 0)), (q_7, eI (ty 0) 8 (fun _ => 0)), (q_8, eI (ty 0) 1000 (fun _ => 0)), (q_9, eI (ty 0) 8000 (fun _ => 0)), (q_10, eI (ty 0) 3 (fun _ => 0)), (q_11, eI (ty 0) 9000 (fun _ => 0)), (q_12, eI (ty 0) 9000 (fun _ => 0)), (q_13, eI (ty 0) 9001 (fun _ => 0)), (q_14, eI (ty 0) 8 (fun _ => 0)), (q_15, eI (ty 0) 1000 (fun _ => 0)), (q_16, eI (ty 0) 1000 (fun _ => 0))]) C hP hD hS 0 rfl rfl lay_X9 tok_X9 nmo_X9 33 (by decide) k_1578 rfl rfl rfl rfl (nle rfl) rfl d_X9_init_143 (fun H locs hP hD hS => ?_)
  refine lv_aload_n hx hb d_X9_init_146 rfl (lv_at hl 0 rfl) ?_
  refine lv_sipush (v := 256) hx hb d_X9_init_147 (by decide) ?_
  refine r_newa (a0 := (256, .inl (fun _ => 0))) C hP hD hS 2 rfl rfl (fun _ _ h => h) k_1666 (fun _ => rfl) (by decide) (N' := 256) (by decide) (by decide) (by decide) (by decide) d_X9_init_150 (fun q_17 H hP hD hS => ?_)
  have hP : va_P D vwCl [(h0, eO 9 [.ref q_1, .ref q_2, .ref q_3, .ref q_4, .int 0, .ref q_5, .int 0, .int 0, .int 0, .int 0, .int 0, .int 0, .int 0, .int 0, .int 0, .int (-1), .int 0, .int 0, .int 0, .ref q_6, .ref q_7, .ref q_8, .ref q_9, .ref q_10, .int 0, .ref q_11, .ref q_12, .ref q_13, .int 0, .int 0, .ref q_14, .ref q_15, .int 0, .ref q_16, .int 0, .int 0, .null, .null, .null, .null]), (q_1, eI (ty 0) 1875 (fun _ => 0)), (q_2, eI (ty 0) 1875 (fun _ => 0)), (q_3, eI (ty 0) 5625 (fun _ => 0)), (q_4, eI (ty 2) 3 (fun _ => 0)), (q_5, eI (ty 0) 900 (fun _ => 0)), (q_6, eI (ty 0) 64 (fun _ => 0)), (q_7, eI (ty 0) 8 (fun _ => 0)), (q_8, eI (ty 0) 1000 (fun _ => 0)), (q_9, eI (ty 0) 8000 (fun _ => 0)), (q_10, eI (ty 0) 3 (fun _ => 0)), (q_11, eI (ty 0) 9000 (fun _ => 0)), (q_12, eI (ty 0) 9000 (fun _ => 0)), (q_13, eI (ty 0) 9001 (fun _ => 0)), (q_14, eI (ty 0) 8 (fun _ => 0)), (q_15, eI (ty 0) 1000 (fun _ => 0)), (q_16, eI (ty 0) 1000 (fun _ => 0)), (q_17, eI (ty 2) 256 (fun _ => 0))] H := hP
  have hD : va_D A [(h0, eO 9 [.ref q_1, .ref q_2, .ref q_3, .ref q_4, .int 0, .ref q_5, .int 0, .int 0, .int 0, .int 0, .int 0, .int 0, .int 0, .int 0, .int 0, .int (-1), .int 0, .int 0, .int 0, .ref q_6, .ref q_7, .ref q_8, .ref q_9, .ref q_10, .int 0, .ref q_11, .ref q_12, .ref q_13, .int 0, .int 0, .ref q_14, .ref q_15, .int 0, .ref q_16, .int 0, .int 0, .null, .null, .null, .null]), (q_1, eI (ty 0) 1875 (fun _ => 0)), (q_2, eI (ty 0) 1875 (fun _ => 0)), (q_3, eI (ty 0) 5625 (fun _ => 0)), (q_4, eI (ty 2) 3 (fun _ => 0)), (q_5, eI (ty 0) 900 (fun _ => 0)), (q_6, eI (ty 0) 64 (fun _ => 0)), (q_7, eI (ty 0) 8 (fun _ => 0)), (q_8, eI (ty 0) 1000 (fun _ => 0)), (q_9, eI (ty 0) 8000 (fun _ => 0)), (q_10, eI (ty 0) 3 (fun _ => 0)), (q_11, eI (ty 0) 9000 (fun _ => 0)), (q_12, eI (ty 0) 9000 (fun _ => 0)), (q_13, eI (ty 0) 9001 (fun _ => 0)), (q_14, eI (ty 0) 8 (fun _ => 0)), (q_15, eI (ty 0) 1000 (fun _ => 0)), (q_16, eI (ty 0) 1000 (fun _ => 0)), (q_17, eI (ty 2) 256 (fun _ => 0))] := hD
  refine r_putF (w := [(h0, eO 9 [.ref q_1, .ref q_2, .ref q_3, .ref q_4, .int 0, .ref q_5, .int 0, .int 0, .int 0, .int 0, .int 0, .int 0, .int 0, .int 0, .int 0, .int (-1), .int 0, .int 0, .int 0, .ref q_6, .ref q_7, .ref q_8, .ref q_9, .ref q_10, .int 0, .ref q_11, .ref q_12, .ref q_13, .int 0, .int 0, .ref q_14, .ref q_15, .int 0, .ref q_16, .int 0, .int 0, .ref q_17, .null, .null, .null]), (q_1, eI (ty 0) 1875 (fun _ => 0)), (q_2, eI (ty 0) 1875 (fun _ => 0)), (q_3, eI (ty 0) 5625 (fun _ => 0)), (q_4, eI (ty 2) 3 (fun _ => 0)), (q_5, eI (ty 0) 900 (fun _ => 0)), (q_6, eI (ty 0) 64 (fun _ => 0)), (q_7, eI (ty 0) 8 (fun _ => 0)), (q_8, eI (ty 0) 1000 (fun _ => 0)), (q_9, eI (ty 0) 8000 (fun _ => 0)), (q_10, eI (ty 0) 3 (fun _ => 0)), (q_11, eI (ty 0) 9000 (fun _ => 0)), (q_12, eI (ty 0) 9000 (fun _ => 0)), (q_13, eI (ty 0) 9001 (fun _ => 0)), (q_14, eI (ty 0) 8 (fun _ => 0)), (q_15, eI (ty 0) 1000 (fun _ => 0)), (q_16, eI (ty 0) 1000 (fun _ => 0)), (q_17, eI (ty 2) 256 (fun _ => 0))]) C hP hD hS 0 rfl rfl lay_X9 tok_X9 nmo_X9 36 (by decide) k_1581 rfl rfl rfl rfl (nle rfl) rfl d_X9_init_152 (fun H locs hP hD hS => ?_)
  refine lv_aload_n hx hb d_X9_init_155 rfl (lv_at hl 0 rfl) ?_
  refine lv_iconst (v := 4) hx hb d_X9_init_156 (by decide) ?_
  refine r_newa (a0 := (4, .inl (fun _ => 0))) C hP hD hS 0 rfl rfl (fun _ _ h => h) k_225 (fun _ => rfl) (by decide) (N' := 4) (by decide) (by decide) (by decide) (by decide) d_X9_init_157 (fun q_18 H hP hD hS => ?_)
  have hP : va_P D vwCl [(h0, eO 9 [.ref q_1, .ref q_2, .ref q_3, .ref q_4, .int 0, .ref q_5, .int 0, .int 0, .int 0, .int 0, .int 0, .int 0, .int 0, .int 0, .int 0, .int (-1), .int 0, .int 0, .int 0, .ref q_6, .ref q_7, .ref q_8, .ref q_9, .ref q_10, .int 0, .ref q_11, .ref q_12, .ref q_13, .int 0, .int 0, .ref q_14, .ref q_15, .int 0, .ref q_16, .int 0, .int 0, .ref q_17, .null, .null, .null]), (q_1, eI (ty 0) 1875 (fun _ => 0)), (q_2, eI (ty 0) 1875 (fun _ => 0)), (q_3, eI (ty 0) 5625 (fun _ => 0)), (q_4, eI (ty 2) 3 (fun _ => 0)), (q_5, eI (ty 0) 900 (fun _ => 0)), (q_6, eI (ty 0) 64 (fun _ => 0)), (q_7, eI (ty 0) 8 (fun _ => 0)), (q_8, eI (ty 0) 1000 (fun _ => 0)), (q_9, eI (ty 0) 8000 (fun _ => 0)), (q_10, eI (ty 0) 3 (fun _ => 0)), (q_11, eI (ty 0) 9000 (fun _ => 0)), (q_12, eI (ty 0) 9000 (fun _ => 0)), (q_13, eI (ty 0) 9001 (fun _ => 0)), (q_14, eI (ty 0) 8 (fun _ => 0)), (q_15, eI (ty 0) 1000 (fun _ => 0)), (q_16, eI (ty 0) 1000 (fun _ => 0)), (q_17, eI (ty 2) 256 (fun _ => 0)), (q_18, eI (ty 0) 4 (fun _ => 0))] H := hP
  have hD : va_D A [(h0, eO 9 [.ref q_1, .ref q_2, .ref q_3, .ref q_4, .int 0, .ref q_5, .int 0, .int 0, .int 0, .int 0, .int 0, .int 0, .int 0, .int 0, .int 0, .int (-1), .int 0, .int 0, .int 0, .ref q_6, .ref q_7, .ref q_8, .ref q_9, .ref q_10, .int 0, .ref q_11, .ref q_12, .ref q_13, .int 0, .int 0, .ref q_14, .ref q_15, .int 0, .ref q_16, .int 0, .int 0, .ref q_17, .null, .null, .null]), (q_1, eI (ty 0) 1875 (fun _ => 0)), (q_2, eI (ty 0) 1875 (fun _ => 0)), (q_3, eI (ty 0) 5625 (fun _ => 0)), (q_4, eI (ty 2) 3 (fun _ => 0)), (q_5, eI (ty 0) 900 (fun _ => 0)), (q_6, eI (ty 0) 64 (fun _ => 0)), (q_7, eI (ty 0) 8 (fun _ => 0)), (q_8, eI (ty 0) 1000 (fun _ => 0)), (q_9, eI (ty 0) 8000 (fun _ => 0)), (q_10, eI (ty 0) 3 (fun _ => 0)), (q_11, eI (ty 0) 9000 (fun _ => 0)), (q_12, eI (ty 0) 9000 (fun _ => 0)), (q_13, eI (ty 0) 9001 (fun _ => 0)), (q_14, eI (ty 0) 8 (fun _ => 0)), (q_15, eI (ty 0) 1000 (fun _ => 0)), (q_16, eI (ty 0) 1000 (fun _ => 0)), (q_17, eI (ty 2) 256 (fun _ => 0)), (q_18, eI (ty 0) 4 (fun _ => 0))] := hD
  refine lv_dup hx hb d_X9_init_159 rfl ?_
  refine lv_iconst (v := 0) hx hb d_X9_init_160 (by decide) ?_
  refine lv_iconst (v := (-1)) hx hb d_X9_init_161 (by decide) ?_
  refine r_iast (w := [(h0, eO 9 [.ref q_1, .ref q_2, .ref q_3, .ref q_4, .int 0, .ref q_5, .int 0, .int 0, .int 0, .int 0, .int 0, .int 0, .int 0, .int 0, .int 0, .int (-1), .int 0, .int 0, .int 0, .ref q_6, .ref q_7, .ref q_8, .ref q_9, .ref q_10, .int 0, .ref q_11, .ref q_12, .ref q_13, .int 0, .int 0, .ref q_14, .ref q_15, .int 0, .ref q_16, .int 0, .int 0, .ref q_17, .null, .null, .null]), (q_1, eI (ty 0) 1875 (fun _ => 0)), (q_2, eI (ty 0) 1875 (fun _ => 0)), (q_3, eI (ty 0) 5625 (fun _ => 0)), (q_4, eI (ty 2) 3 (fun _ => 0)), (q_5, eI (ty 0) 900 (fun _ => 0)), (q_6, eI (ty 0) 64 (fun _ => 0)), (q_7, eI (ty 0) 8 (fun _ => 0)), (q_8, eI (ty 0) 1000 (fun _ => 0)), (q_9, eI (ty 0) 8000 (fun _ => 0)), (q_10, eI (ty 0) 3 (fun _ => 0)), (q_11, eI (ty 0) 9000 (fun _ => 0)), (q_12, eI (ty 0) 9000 (fun _ => 0)), (q_13, eI (ty 0) 9001 (fun _ => 0)), (q_14, eI (ty 0) 8 (fun _ => 0)), (q_15, eI (ty 0) 1000 (fun _ => 0)), (q_16, eI (ty 0) 1000 (fun _ => 0)), (q_17, eI (ty 2) 256 (fun _ => 0)), (q_18, eI (ty 0) 4 (upd (fun _ => 0) 0 (-1)))]) C hP hD hS 18 rfl 0 rfl (by decide) (by decide) rfl d_X9_init_162 (fun H locs hP hD hS => ?_)
  refine lv_dup hx hb d_X9_init_163 rfl ?_
  refine lv_iconst (v := 1) hx hb d_X9_init_164 (by decide) ?_
  refine lv_iconst (v := (-1)) hx hb d_X9_init_165 (by decide) ?_
  refine r_iast (w := [(h0, eO 9 [.ref q_1, .ref q_2, .ref q_3, .ref q_4, .int 0, .ref q_5, .int 0, .int 0, .int 0, .int 0, .int 0, .int 0, .int 0, .int 0, .int 0, .int (-1), .int 0, .int 0, .int 0, .ref q_6, .ref q_7, .ref q_8, .ref q_9, .ref q_10, .int 0, .ref q_11, .ref q_12, .ref q_13, .int 0, .int 0, .ref q_14, .ref q_15, .int 0, .ref q_16, .int 0, .int 0, .ref q_17, .null, .null, .null]), (q_1, eI (ty 0) 1875 (fun _ => 0)), (q_2, eI (ty 0) 1875 (fun _ => 0)), (q_3, eI (ty 0) 5625 (fun _ => 0)), (q_4, eI (ty 2) 3 (fun _ => 0)), (q_5, eI (ty 0) 900 (fun _ => 0)), (q_6, eI (ty 0) 64 (fun _ => 0)), (q_7, eI (ty 0) 8 (fun _ => 0)), (q_8, eI (ty 0) 1000 (fun _ => 0)), (q_9, eI (ty 0) 8000 (fun _ => 0)), (q_10, eI (ty 0) 3 (fun _ => 0)), (q_11, eI (ty 0) 9000 (fun _ => 0)), (q_12, eI (ty 0) 9000 (fun _ => 0)), (q_13, eI (ty 0) 9001 (fun _ => 0)), (q_14, eI (ty 0) 8 (fun _ => 0)), (q_15, eI (ty 0) 1000 (fun _ => 0)), (q_16, eI (ty 0) 1000 (fun _ => 0)), (q_17, eI (ty 2) 256 (fun _ => 0)), (q_18, eI (ty 0) 4 (upd (upd (fun _ => 0) 0 (-1)) 1 (-1)))]) C hP hD hS 18 rfl 1 rfl (by decide) (by decide) rfl d_X9_init_166 (fun H locs hP hD hS => ?_)
  refine lv_dup hx hb d_X9_init_167 rfl ?_
  refine lv_iconst (v := 2) hx hb d_X9_init_168 (by decide) ?_
  refine lv_iconst (v := (-1)) hx hb d_X9_init_169 (by decide) ?_
  refine r_iast (w := [(h0, eO 9 [.ref q_1, .ref q_2, .ref q_3, .ref q_4, .int 0, .ref q_5, .int 0, .int 0, .int 0, .int 0, .int 0, .int 0, .int 0, .int 0, .int 0, .int (-1), .int 0, .int 0, .int 0, .ref q_6, .ref q_7, .ref q_8, .ref q_9, .ref q_10, .int 0, .ref q_11, .ref q_12, .ref q_13, .int 0, .int 0, .ref q_14, .ref q_15, .int 0, .ref q_16, .int 0, .int 0, .ref q_17, .null, .null, .null]), (q_1, eI (ty 0) 1875 (fun _ => 0)), (q_2, eI (ty 0) 1875 (fun _ => 0)), (q_3, eI (ty 0) 5625 (fun _ => 0)), (q_4, eI (ty 2) 3 (fun _ => 0)), (q_5, eI (ty 0) 900 (fun _ => 0)), (q_6, eI (ty 0) 64 (fun _ => 0)), (q_7, eI (ty 0) 8 (fun _ => 0)), (q_8, eI (ty 0) 1000 (fun _ => 0)), (q_9, eI (ty 0) 8000 (fun _ => 0)), (q_10, eI (ty 0) 3 (fun _ => 0)), (q_11, eI (ty 0) 9000 (fun _ => 0)), (q_12, eI (ty 0) 9000 (fun _ => 0)), (q_13, eI (ty 0) 9001 (fun _ => 0)), (q_14, eI (ty 0) 8 (fun _ => 0)), (q_15, eI (ty 0) 1000 (fun _ => 0)), (q_16, eI (ty 0) 1000 (fun _ => 0)), (q_17, eI (ty 2) 256 (fun _ => 0)), (q_18, eI (ty 0) 4 (upd (upd (upd (fun _ => 0) 0 (-1)) 1 (-1)) 2 (-1)))]) C hP hD hS 18 rfl 2 rfl (by decide) (by decide) rfl d_X9_init_170 (fun H locs hP hD hS => ?_)
  refine lv_dup hx hb d_X9_init_171 rfl ?_
  refine lv_iconst (v := 3) hx hb d_X9_init_172 (by decide) ?_
  refine lv_iconst (v := (-1)) hx hb d_X9_init_173 (by decide) ?_
  refine r_iast (w := [(h0, eO 9 [.ref q_1, .ref q_2, .ref q_3, .ref q_4, .int 0, .ref q_5, .int 0, .int 0, .int 0, .int 0, .int 0, .int 0, .int 0, .int 0, .int 0, .int (-1), .int 0, .int 0, .int 0, .ref q_6, .ref q_7, .ref q_8, .ref q_9, .ref q_10, .int 0, .ref q_11, .ref q_12, .ref q_13, .int 0, .int 0, .ref q_14, .ref q_15, .int 0, .ref q_16, .int 0, .int 0, .ref q_17, .null, .null, .null]), (q_1, eI (ty 0) 1875 (fun _ => 0)), (q_2, eI (ty 0) 1875 (fun _ => 0)), (q_3, eI (ty 0) 5625 (fun _ => 0)), (q_4, eI (ty 2) 3 (fun _ => 0)), (q_5, eI (ty 0) 900 (fun _ => 0)), (q_6, eI (ty 0) 64 (fun _ => 0)), (q_7, eI (ty 0) 8 (fun _ => 0)), (q_8, eI (ty 0) 1000 (fun _ => 0)), (q_9, eI (ty 0) 8000 (fun _ => 0)), (q_10, eI (ty 0) 3 (fun _ => 0)), (q_11, eI (ty 0) 9000 (fun _ => 0)), (q_12, eI (ty 0) 9000 (fun _ => 0)), (q_13, eI (ty 0) 9001 (fun _ => 0)), (q_14, eI (ty 0) 8 (fun _ => 0)), (q_15, eI (ty 0) 1000 (fun _ => 0)), (q_16, eI (ty 0) 1000 (fun _ => 0)), (q_17, eI (ty 2) 256 (fun _ => 0)), (q_18, eI (ty 0) 4 (upd (upd (upd (upd (fun _ => 0) 0 (-1)) 1 (-1)) 2 (-1)) 3 (-1)))]) C hP hD hS 18 rfl 3 rfl (by decide) (by decide) rfl d_X9_init_174 (fun H locs hP hD hS => ?_)
  refine r_putF (w := [(h0, eO 9 [.ref q_1, .ref q_2, .ref q_3, .ref q_4, .int 0, .ref q_5, .int 0, .int 0, .int 0, .int 0, .int 0, .int 0, .int 0, .int 0, .int 0, .int (-1), .int 0, .int 0, .int 0, .ref q_6, .ref q_7, .ref q_8, .ref q_9, .ref q_10, .int 0, .ref q_11, .ref q_12, .ref q_13, .int 0, .int 0, .ref q_14, .ref q_15, .int 0, .ref q_16, .int 0, .int 0, .ref q_17, .ref q_18, .null, .null]), (q_1, eI (ty 0) 1875 (fun _ => 0)), (q_2, eI (ty 0) 1875 (fun _ => 0)), (q_3, eI (ty 0) 5625 (fun _ => 0)), (q_4, eI (ty 2) 3 (fun _ => 0)), (q_5, eI (ty 0) 900 (fun _ => 0)), (q_6, eI (ty 0) 64 (fun _ => 0)), (q_7, eI (ty 0) 8 (fun _ => 0)), (q_8, eI (ty 0) 1000 (fun _ => 0)), (q_9, eI (ty 0) 8000 (fun _ => 0)), (q_10, eI (ty 0) 3 (fun _ => 0)), (q_11, eI (ty 0) 9000 (fun _ => 0)), (q_12, eI (ty 0) 9000 (fun _ => 0)), (q_13, eI (ty 0) 9001 (fun _ => 0)), (q_14, eI (ty 0) 8 (fun _ => 0)), (q_15, eI (ty 0) 1000 (fun _ => 0)), (q_16, eI (ty 0) 1000 (fun _ => 0)), (q_17, eI (ty 2) 256 (fun _ => 0)), (q_18, eI (ty 0) 4 (upd (upd (upd (upd (fun _ => 0) 0 (-1)) 1 (-1)) 2 (-1)) 3 (-1)))]) C hP hD hS 0 rfl rfl lay_X9 tok_X9 nmo_X9 37 (by decide) k_1582 rfl rfl rfl rfl (nle rfl) rfl d_X9_init_175 (fun H locs hP hD hS => ?_)
  refine lv_aload_n hx hb d_X9_init_178 rfl (lv_at hl 0 rfl) ?_
  refine lv_iconst (v := 4) hx hb d_X9_init_179 (by decide) ?_
  refine r_newa (a0 := (4, .inl (fun _ => 0))) C hP hD hS 0 rfl rfl (fun _ _ h => h) k_225 (fun _ => rfl) (by decide) (N' := 4) (by decide) (by decide) (by decide) (by decide) d_X9_init_180 (fun q_19 H hP hD hS => ?_)
  have hP : va_P D vwCl [(h0, eO 9 [.ref q_1, .ref q_2, .ref q_3, .ref q_4, .int 0, .ref q_5, .int 0, .int 0, .int 0, .int 0, .int 0, .int 0, .int 0, .int 0, .int 0, .int (-1), .int 0, .int 0, .int 0, .ref q_6, .ref q_7, .ref q_8, .ref q_9, .ref q_10, .int 0, .ref q_11, .ref q_12, .ref q_13, .int 0, .int 0, .ref q_14, .ref q_15, .int 0, .ref q_16, .int 0, .int 0, .ref q_17, .ref q_18, .null, .null]), (q_1, eI (ty 0) 1875 (fun _ => 0)), (q_2, eI (ty 0) 1875 (fun _ => 0)), (q_3, eI (ty 0) 5625 (fun _ => 0)), (q_4, eI (ty 2) 3 (fun _ => 0)), (q_5, eI (ty 0) 900 (fun _ => 0)), (q_6, eI (ty 0) 64 (fun _ => 0)), (q_7, eI (ty 0) 8 (fun _ => 0)), (q_8, eI (ty 0) 1000 (fun _ => 0)), (q_9, eI (ty 0) 8000 (fun _ => 0)), (q_10, eI (ty 0) 3 (fun _ => 0)), (q_11, eI (ty 0) 9000 (fun _ => 0)), (q_12, eI (ty 0) 9000 (fun _ => 0)), (q_13, eI (ty 0) 9001 (fun _ => 0)), (q_14, eI (ty 0) 8 (fun _ => 0)), (q_15, eI (ty 0) 1000 (fun _ => 0)), (q_16, eI (ty 0) 1000 (fun _ => 0)), (q_17, eI (ty 2) 256 (fun _ => 0)), (q_18, eI (ty 0) 4 (upd (upd (upd (upd (fun _ => 0) 0 (-1)) 1 (-1)) 2 (-1)) 3 (-1))), (q_19, eI (ty 0) 4 (fun _ => 0))] H := hP
  have hD : va_D A [(h0, eO 9 [.ref q_1, .ref q_2, .ref q_3, .ref q_4, .int 0, .ref q_5, .int 0, .int 0, .int 0, .int 0, .int 0, .int 0, .int 0, .int 0, .int 0, .int (-1), .int 0, .int 0, .int 0, .ref q_6, .ref q_7, .ref q_8, .ref q_9, .ref q_10, .int 0, .ref q_11, .ref q_12, .ref q_13, .int 0, .int 0, .ref q_14, .ref q_15, .int 0, .ref q_16, .int 0, .int 0, .ref q_17, .ref q_18, .null, .null]), (q_1, eI (ty 0) 1875 (fun _ => 0)), (q_2, eI (ty 0) 1875 (fun _ => 0)), (q_3, eI (ty 0) 5625 (fun _ => 0)), (q_4, eI (ty 2) 3 (fun _ => 0)), (q_5, eI (ty 0) 900 (fun _ => 0)), (q_6, eI (ty 0) 64 (fun _ => 0)), (q_7, eI (ty 0) 8 (fun _ => 0)), (q_8, eI (ty 0) 1000 (fun _ => 0)), (q_9, eI (ty 0) 8000 (fun _ => 0)), (q_10, eI (ty 0) 3 (fun _ => 0)), (q_11, eI (ty 0) 9000 (fun _ => 0)), (q_12, eI (ty 0) 9000 (fun _ => 0)), (q_13, eI (ty 0) 9001 (fun _ => 0)), (q_14, eI (ty 0) 8 (fun _ => 0)), (q_15, eI (ty 0) 1000 (fun _ => 0)), (q_16, eI (ty 0) 1000 (fun _ => 0)), (q_17, eI (ty 2) 256 (fun _ => 0)), (q_18, eI (ty 0) 4 (upd (upd (upd (upd (fun _ => 0) 0 (-1)) 1 (-1)) 2 (-1)) 3 (-1))), (q_19, eI (ty 0) 4 (fun _ => 0))] := hD
  refine r_putF (w := [(h0, eO 9 [.ref q_1, .ref q_2, .ref q_3, .ref q_4, .int 0, .ref q_5, .int 0, .int 0, .int 0, .int 0, .int 0, .int 0, .int 0, .int 0, .int 0, .int (-1), .int 0, .int 0, .int 0, .ref q_6, .ref q_7, .ref q_8, .ref q_9, .ref q_10, .int 0, .ref q_11, .ref q_12, .ref q_13, .int 0, .int 0, .ref q_14, .ref q_15, .int 0, .ref q_16, .int 0, .int 0, .ref q_17, .ref q_18, .ref q_19, .null]), (q_1, eI (ty 0) 1875 (fun _ => 0)), (q_2, eI (ty 0) 1875 (fun _ => 0)), (q_3, eI (ty 0) 5625 (fun _ => 0)), (q_4, eI (ty 2) 3 (fun _ => 0)), (q_5, eI (ty 0) 900 (fun _ => 0)), (q_6, eI (ty 0) 64 (fun _ => 0)), (q_7, eI (ty 0) 8 (fun _ => 0)), (q_8, eI (ty 0) 1000 (fun _ => 0)), (q_9, eI (ty 0) 8000 (fun _ => 0)), (q_10, eI (ty 0) 3 (fun _ => 0)), (q_11, eI (ty 0) 9000 (fun _ => 0)), (q_12, eI (ty 0) 9000 (fun _ => 0)), (q_13, eI (ty 0) 9001 (fun _ => 0)), (q_14, eI (ty 0) 8 (fun _ => 0)), (q_15, eI (ty 0) 1000 (fun _ => 0)), (q_16, eI (ty 0) 1000 (fun _ => 0)), (q_17, eI (ty 2) 256 (fun _ => 0)), (q_18, eI (ty 0) 4 (upd (upd (upd (upd (fun _ => 0) 0 (-1)) 1 (-1)) 2 (-1)) 3 (-1))), (q_19, eI (ty 0) 4 (fun _ => 0))]) C hP hD hS 0 rfl rfl lay_X9 tok_X9 nmo_X9 38 (by decide) k_1583 rfl rfl rfl rfl (nle rfl) rfl d_X9_init_182 (fun H locs hP hD hS => ?_)
  refine lv_aload_n hx hb d_X9_init_185 rfl (lv_at hl 0 rfl) ?_
  refine lv_bipush (v := 120) hx hb d_X9_init_186 (by decide) ?_
  refine r_newa (a0 := (120, .inr (.inl (fun _ => 0)))) C hP hD hS 3 rfl rfl (fun _ _ h => h) k_1398 (fun _ => rfl) (by decide) (N' := 120) (by decide) (by decide) (by decide) (by decide) d_X9_init_188 (fun q_20 H hP hD hS => ?_)
  have hP : va_P D vwCl [(h0, eO 9 [.ref q_1, .ref q_2, .ref q_3, .ref q_4, .int 0, .ref q_5, .int 0, .int 0, .int 0, .int 0, .int 0, .int 0, .int 0, .int 0, .int 0, .int (-1), .int 0, .int 0, .int 0, .ref q_6, .ref q_7, .ref q_8, .ref q_9, .ref q_10, .int 0, .ref q_11, .ref q_12, .ref q_13, .int 0, .int 0, .ref q_14, .ref q_15, .int 0, .ref q_16, .int 0, .int 0, .ref q_17, .ref q_18, .ref q_19, .null]), (q_1, eI (ty 0) 1875 (fun _ => 0)), (q_2, eI (ty 0) 1875 (fun _ => 0)), (q_3, eI (ty 0) 5625 (fun _ => 0)), (q_4, eI (ty 2) 3 (fun _ => 0)), (q_5, eI (ty 0) 900 (fun _ => 0)), (q_6, eI (ty 0) 64 (fun _ => 0)), (q_7, eI (ty 0) 8 (fun _ => 0)), (q_8, eI (ty 0) 1000 (fun _ => 0)), (q_9, eI (ty 0) 8000 (fun _ => 0)), (q_10, eI (ty 0) 3 (fun _ => 0)), (q_11, eI (ty 0) 9000 (fun _ => 0)), (q_12, eI (ty 0) 9000 (fun _ => 0)), (q_13, eI (ty 0) 9001 (fun _ => 0)), (q_14, eI (ty 0) 8 (fun _ => 0)), (q_15, eI (ty 0) 1000 (fun _ => 0)), (q_16, eI (ty 0) 1000 (fun _ => 0)), (q_17, eI (ty 2) 256 (fun _ => 0)), (q_18, eI (ty 0) 4 (upd (upd (upd (upd (fun _ => 0) 0 (-1)) 1 (-1)) 2 (-1)) 3 (-1))), (q_19, eI (ty 0) 4 (fun _ => 0)), (q_20, eJ (ty 3) 120 (fun _ => 0))] H := hP
  have hD : va_D A [(h0, eO 9 [.ref q_1, .ref q_2, .ref q_3, .ref q_4, .int 0, .ref q_5, .int 0, .int 0, .int 0, .int 0, .int 0, .int 0, .int 0, .int 0, .int 0, .int (-1), .int 0, .int 0, .int 0, .ref q_6, .ref q_7, .ref q_8, .ref q_9, .ref q_10, .int 0, .ref q_11, .ref q_12, .ref q_13, .int 0, .int 0, .ref q_14, .ref q_15, .int 0, .ref q_16, .int 0, .int 0, .ref q_17, .ref q_18, .ref q_19, .null]), (q_1, eI (ty 0) 1875 (fun _ => 0)), (q_2, eI (ty 0) 1875 (fun _ => 0)), (q_3, eI (ty 0) 5625 (fun _ => 0)), (q_4, eI (ty 2) 3 (fun _ => 0)), (q_5, eI (ty 0) 900 (fun _ => 0)), (q_6, eI (ty 0) 64 (fun _ => 0)), (q_7, eI (ty 0) 8 (fun _ => 0)), (q_8, eI (ty 0) 1000 (fun _ => 0)), (q_9, eI (ty 0) 8000 (fun _ => 0)), (q_10, eI (ty 0) 3 (fun _ => 0)), (q_11, eI (ty 0) 9000 (fun _ => 0)), (q_12, eI (ty 0) 9000 (fun _ => 0)), (q_13, eI (ty 0) 9001 (fun _ => 0)), (q_14, eI (ty 0) 8 (fun _ => 0)), (q_15, eI (ty 0) 1000 (fun _ => 0)), (q_16, eI (ty 0) 1000 (fun _ => 0)), (q_17, eI (ty 2) 256 (fun _ => 0)), (q_18, eI (ty 0) 4 (upd (upd (upd (upd (fun _ => 0) 0 (-1)) 1 (-1)) 2 (-1)) 3 (-1))), (q_19, eI (ty 0) 4 (fun _ => 0)), (q_20, eJ (ty 3) 120 (fun _ => 0))] := hD
  refine r_putF (w := [(h0, eO 9 [.ref q_1, .ref q_2, .ref q_3, .ref q_4, .int 0, .ref q_5, .int 0, .int 0, .int 0, .int 0, .int 0, .int 0, .int 0, .int 0, .int 0, .int (-1), .int 0, .int 0, .int 0, .ref q_6, .ref q_7, .ref q_8, .ref q_9, .ref q_10, .int 0, .ref q_11, .ref q_12, .ref q_13, .int 0, .int 0, .ref q_14, .ref q_15, .int 0, .ref q_16, .int 0, .int 0, .ref q_17, .ref q_18, .ref q_19, .ref q_20]), (q_1, eI (ty 0) 1875 (fun _ => 0)), (q_2, eI (ty 0) 1875 (fun _ => 0)), (q_3, eI (ty 0) 5625 (fun _ => 0)), (q_4, eI (ty 2) 3 (fun _ => 0)), (q_5, eI (ty 0) 900 (fun _ => 0)), (q_6, eI (ty 0) 64 (fun _ => 0)), (q_7, eI (ty 0) 8 (fun _ => 0)), (q_8, eI (ty 0) 1000 (fun _ => 0)), (q_9, eI (ty 0) 8000 (fun _ => 0)), (q_10, eI (ty 0) 3 (fun _ => 0)), (q_11, eI (ty 0) 9000 (fun _ => 0)), (q_12, eI (ty 0) 9000 (fun _ => 0)), (q_13, eI (ty 0) 9001 (fun _ => 0)), (q_14, eI (ty 0) 8 (fun _ => 0)), (q_15, eI (ty 0) 1000 (fun _ => 0)), (q_16, eI (ty 0) 1000 (fun _ => 0)), (q_17, eI (ty 2) 256 (fun _ => 0)), (q_18, eI (ty 0) 4 (upd (upd (upd (upd (fun _ => 0) 0 (-1)) 1 (-1)) 2 (-1)) 3 (-1))), (q_19, eI (ty 0) 4 (fun _ => 0)), (q_20, eJ (ty 3) 120 (fun _ => 0))]) C hP hD hS 0 rfl rfl lay_X9 tok_X9 nmo_X9 39 (by decide) k_1584 rfl rfl rfl rfl (nle rfl) rfl d_X9_init_190 (fun H locs hP hD hS => ?_)
  refine lv_aload_n hx hb d_X9_init_193 rfl (lv_at hl 0 rfl) ?_
  refine r_get (v := .ref q_1) C hP 0 rfl rfl lay_X9 0 (by decide) k_1545 rfl d_X9_init_194 ?_
  refine lv_iconst (v := 1) hx hb d_X9_init_197 (by decide) ?_
  refine lv_iconst (v := 1) hx hb d_X9_init_198 (by decide) ?_
  refine r_iast (w := [(h0, eO 9 [.ref q_1, .ref q_2, .ref q_3, .ref q_4, .int 0, .ref q_5, .int 0, .int 0, .int 0, .int 0, .int 0, .int 0, .int 0, .int 0, .int 0, .int (-1), .int 0, .int 0, .int 0, .ref q_6, .ref q_7, .ref q_8, .ref q_9, .ref q_10, .int 0, .ref q_11, .ref q_12, .ref q_13, .int 0, .int 0, .ref q_14, .ref q_15, .int 0, .ref q_16, .int 0, .int 0, .ref q_17, .ref q_18, .ref q_19, .ref q_20]), (q_1, eI (ty 0) 1875 (upd (fun _ => 0) 1 1)), (q_2, eI (ty 0) 1875 (fun _ => 0)), (q_3, eI (ty 0) 5625 (fun _ => 0)), (q_4, eI (ty 2) 3 (fun _ => 0)), (q_5, eI (ty 0) 900 (fun _ => 0)), (q_6, eI (ty 0) 64 (fun _ => 0)), (q_7, eI (ty 0) 8 (fun _ => 0)), (q_8, eI (ty 0) 1000 (fun _ => 0)), (q_9, eI (ty 0) 8000 (fun _ => 0)), (q_10, eI (ty 0) 3 (fun _ => 0)), (q_11, eI (ty 0) 9000 (fun _ => 0)), (q_12, eI (ty 0) 9000 (fun _ => 0)), (q_13, eI (ty 0) 9001 (fun _ => 0)), (q_14, eI (ty 0) 8 (fun _ => 0)), (q_15, eI (ty 0) 1000 (fun _ => 0)), (q_16, eI (ty 0) 1000 (fun _ => 0)), (q_17, eI (ty 2) 256 (fun _ => 0)), (q_18, eI (ty 0) 4 (upd (upd (upd (upd (fun _ => 0) 0 (-1)) 1 (-1)) 2 (-1)) 3 (-1))), (q_19, eI (ty 0) 4 (fun _ => 0)), (q_20, eJ (ty 3) 120 (fun _ => 0))]) C hP hD hS 1 rfl 1 rfl (by decide) (by decide) rfl d_X9_init_199 (fun H locs hP hD hS => ?_)
  refine lv_aload_n hx hb d_X9_init_200 rfl (lv_at hl 0 rfl) ?_
  refine r_get (v := .ref q_1) C hP 0 rfl rfl lay_X9 0 (by decide) k_1545 rfl d_X9_init_201 ?_
  refine lv_bipush (v := 7) hx hb d_X9_init_204 (by decide) ?_
  refine lv_iconst (v := (-1)) hx hb d_X9_init_206 (by decide) ?_
  refine r_iast (w := [(h0, eO 9 [.ref q_1, .ref q_2, .ref q_3, .ref q_4, .int 0, .ref q_5, .int 0, .int 0, .int 0, .int 0, .int 0, .int 0, .int 0, .int 0, .int 0, .int (-1), .int 0, .int 0, .int 0, .ref q_6, .ref q_7, .ref q_8, .ref q_9, .ref q_10, .int 0, .ref q_11, .ref q_12, .ref q_13, .int 0, .int 0, .ref q_14, .ref q_15, .int 0, .ref q_16, .int 0, .int 0, .ref q_17, .ref q_18, .ref q_19, .ref q_20]), (q_1, eI (ty 0) 1875 (upd (upd (fun _ => 0) 1 1) 7 (-1))), (q_2, eI (ty 0) 1875 (fun _ => 0)), (q_3, eI (ty 0) 5625 (fun _ => 0)), (q_4, eI (ty 2) 3 (fun _ => 0)), (q_5, eI (ty 0) 900 (fun _ => 0)), (q_6, eI (ty 0) 64 (fun _ => 0)), (q_7, eI (ty 0) 8 (fun _ => 0)), (q_8, eI (ty 0) 1000 (fun _ => 0)), (q_9, eI (ty 0) 8000 (fun _ => 0)), (q_10, eI (ty 0) 3 (fun _ => 0)), (q_11, eI (ty 0) 9000 (fun _ => 0)), (q_12, eI (ty 0) 9000 (fun _ => 0)), (q_13, eI (ty 0) 9001 (fun _ => 0)), (q_14, eI (ty 0) 8 (fun _ => 0)), (q_15, eI (ty 0) 1000 (fun _ => 0)), (q_16, eI (ty 0) 1000 (fun _ => 0)), (q_17, eI (ty 2) 256 (fun _ => 0)), (q_18, eI (ty 0) 4 (upd (upd (upd (upd (fun _ => 0) 0 (-1)) 1 (-1)) 2 (-1)) 3 (-1))), (q_19, eI (ty 0) 4 (fun _ => 0)), (q_20, eJ (ty 3) 120 (fun _ => 0))]) C hP hD hS 1 rfl 7 rfl (by decide) (by decide) rfl d_X9_init_207 (fun H locs hP hD hS => ?_)
  refine lv_aload_n hx hb d_X9_init_208 rfl (lv_at hl 0 rfl) ?_
  have hP : va_P D vwCl [(h0, eO 9 [.ref q_1, .ref q_2, .ref q_3, .ref q_4, .int 0, .ref q_5, .int 0, .int 0, .int 0, .int 0, .int 0, .int 0, .int 0, .int 0, .int 0, .int (-1), .int 0, .int 0, .int 0, .ref q_6, .ref q_7, .ref q_8, .ref q_9, .ref q_10, .int 0, .ref q_11, .ref q_12, .ref q_13, .int 0, .int 0, .ref q_14, .ref q_15, .int 0, .ref q_16, .int 0, .int 0, .ref q_17, .ref q_18, .ref q_19, .ref q_20]), (q_1, eI (ty 0) 1875 knF), (q_2, eI (ty 0) 1875 (fun _ => 0)), (q_3, eI (ty 0) 5625 (fun _ => 0)), (q_4, eI (ty 2) 3 (fun _ => 0)), (q_5, eI (ty 0) 900 (fun _ => 0)), (q_6, eI (ty 0) 64 (fun _ => 0)), (q_7, eI (ty 0) 8 (fun _ => 0)), (q_8, eI (ty 0) 1000 (fun _ => 0)), (q_9, eI (ty 0) 8000 (fun _ => 0)), (q_10, eI (ty 0) 3 (fun _ => 0)), (q_11, eI (ty 0) 9000 (fun _ => 0)), (q_12, eI (ty 0) 9000 (fun _ => 0)), (q_13, eI (ty 0) 9001 (fun _ => 0)), (q_14, eI (ty 0) 8 (fun _ => 0)), (q_15, eI (ty 0) 1000 (fun _ => 0)), (q_16, eI (ty 0) 1000 (fun _ => 0)), (q_17, eI (ty 2) 256 (fun _ => 0)), (q_18, eI (ty 0) 4 tsF), (q_19, eI (ty 0) 4 (fun _ => 0)), (q_20, eJ (ty 3) 120 (fun _ => 0))] H := hP
  have hD : va_D A [(h0, eO 9 [.ref q_1, .ref q_2, .ref q_3, .ref q_4, .int 0, .ref q_5, .int 0, .int 0, .int 0, .int 0, .int 0, .int 0, .int 0, .int 0, .int 0, .int (-1), .int 0, .int 0, .int 0, .ref q_6, .ref q_7, .ref q_8, .ref q_9, .ref q_10, .int 0, .ref q_11, .ref q_12, .ref q_13, .int 0, .int 0, .ref q_14, .ref q_15, .int 0, .ref q_16, .int 0, .int 0, .ref q_17, .ref q_18, .ref q_19, .ref q_20]), (q_1, eI (ty 0) 1875 knF), (q_2, eI (ty 0) 1875 (fun _ => 0)), (q_3, eI (ty 0) 5625 (fun _ => 0)), (q_4, eI (ty 2) 3 (fun _ => 0)), (q_5, eI (ty 0) 900 (fun _ => 0)), (q_6, eI (ty 0) 64 (fun _ => 0)), (q_7, eI (ty 0) 8 (fun _ => 0)), (q_8, eI (ty 0) 1000 (fun _ => 0)), (q_9, eI (ty 0) 8000 (fun _ => 0)), (q_10, eI (ty 0) 3 (fun _ => 0)), (q_11, eI (ty 0) 9000 (fun _ => 0)), (q_12, eI (ty 0) 9000 (fun _ => 0)), (q_13, eI (ty 0) 9001 (fun _ => 0)), (q_14, eI (ty 0) 8 (fun _ => 0)), (q_15, eI (ty 0) 1000 (fun _ => 0)), (q_16, eI (ty 0) 1000 (fun _ => 0)), (q_17, eI (ty 2) 256 (fun _ => 0)), (q_18, eI (ty 0) 4 tsF), (q_19, eI (ty 0) 4 (fun _ => 0)), (q_20, eJ (ty 3) 120 (fun _ => 0))] := hD
  have ct_21 : Cut [(h0, eO 9 [.ref q_1, .ref q_2, .ref q_3, .ref q_4, .int 0, .ref q_5, .int 0, .int 0, .int 0, .int 0, .int 0, .int 0, .int 0, .int 0, .int 0, .int (-1), .int 0, .int 0, .int 0, .ref q_6, .ref q_7, .ref q_8, .ref q_9, .ref q_10, .int 0, .ref q_11, .ref q_12, .ref q_13, .int 0, .int 0, .ref q_14, .ref q_15, .int 0, .ref q_16, .int 0, .int 0, .ref q_17, .ref q_18, .ref q_19, .ref q_20]), (q_1, eI (ty 0) 1875 knF), (q_2, eI (ty 0) 1875 (fun _ => 0)), (q_3, eI (ty 0) 5625 (fun _ => 0)), (q_4, eI (ty 2) 3 (fun _ => 0)), (q_5, eI (ty 0) 900 (fun _ => 0)), (q_6, eI (ty 0) 64 (fun _ => 0)), (q_7, eI (ty 0) 8 (fun _ => 0)), (q_8, eI (ty 0) 1000 (fun _ => 0)), (q_9, eI (ty 0) 8000 (fun _ => 0)), (q_10, eI (ty 0) 3 (fun _ => 0)), (q_11, eI (ty 0) 9000 (fun _ => 0)), (q_12, eI (ty 0) 9000 (fun _ => 0)), (q_13, eI (ty 0) 9001 (fun _ => 0)), (q_14, eI (ty 0) 8 (fun _ => 0)), (q_15, eI (ty 0) 1000 (fun _ => 0)), (q_16, eI (ty 0) 1000 (fun _ => 0)), (q_17, eI (ty 2) 256 (fun _ => 0)), (q_18, eI (ty 0) 4 tsF), (q_19, eI (ty 0) 4 (fun _ => 0)), (q_20, eJ (ty 3) 120 (fun _ => 0))] [(h0, eO 9 [.ref q_1, .ref q_2, .ref q_3, .ref q_4, .int 0, .ref q_5, .int 0, .int 0, .int 0, .int 0, .int 0, .int 0, .int 0, .int 0, .int 0, .int (-1), .int 0, .int 0, .int 0, .ref q_6, .ref q_7, .ref q_8, .ref q_9, .ref q_10, .int 0, .ref q_11, .ref q_12, .ref q_13, .int 0, .int 0, .ref q_14, .ref q_15, .int 0, .ref q_16, .int 0, .int 0, .ref q_17, .ref q_18, .ref q_19, .ref q_20]), (q_1, eI (ty 0) 1875 knF), (q_8, eI (ty 0) 1000 (fun _ => 0))] [(q_2, eI (ty 0) 1875 (fun _ => 0)), (q_3, eI (ty 0) 5625 (fun _ => 0)), (q_4, eI (ty 2) 3 (fun _ => 0)), (q_5, eI (ty 0) 900 (fun _ => 0)), (q_6, eI (ty 0) 64 (fun _ => 0)), (q_7, eI (ty 0) 8 (fun _ => 0)), (q_9, eI (ty 0) 8000 (fun _ => 0)), (q_10, eI (ty 0) 3 (fun _ => 0)), (q_11, eI (ty 0) 9000 (fun _ => 0)), (q_12, eI (ty 0) 9000 (fun _ => 0)), (q_13, eI (ty 0) 9001 (fun _ => 0)), (q_14, eI (ty 0) 8 (fun _ => 0)), (q_15, eI (ty 0) 1000 (fun _ => 0)), (q_16, eI (ty 0) 1000 (fun _ => 0)), (q_17, eI (ty 2) 256 (fun _ => 0)), (q_18, eI (ty 0) 4 tsF), (q_19, eI (ty 0) 4 (fun _ => 0)), (q_20, eJ (ty 3) 120 (fun _ => 0))] [0, 1, 8] [2, 3, 4, 5, 6, 7, 9, 10, 11, 12, 13, 14, 15, 16, 17, 18, 19, 20] := ⟨rfl, rfl, rfl, rfl, by decide⟩
  refine cont_V C hP hD hS ct_21 (run_V (As := []) (rest := []) C hP hD hS ct_21 (c_mtab l D ty h0 q_1 q_2 q_3 q_4 q_5 q_6 q_7 q_8 q_9 q_10 q_11 q_12 q_13 q_14 q_15 q_16 q_17 q_18 q_19 q_20 (.int 0) (.int 0) (.int 0) (.int 0) (.int 0) (.int 0) (.int 0) (.int 0) (.int 0) (.int 0) (.int (-1)) (.int 0) (.int 0) (.int 0) (.int 0) (.int 0) (.int 0) (.int 0) (.int 0) (.int 0) knF KF_0) kV_PinchedBillModel_76 0 rfl rfl rfl rfl hl.1 rfl (nle rfl) d_X9_init_209 ⟨by decide, by decide, by decide, by decide⟩) (fun w_24 H locs hw_22 hP hD hS => ?_)
  subst hw_22
  have hP : va_P D vwCl [(q_2, eI (ty 0) 1875 (fun _ => 0)), (q_3, eI (ty 0) 5625 (fun _ => 0)), (q_4, eI (ty 2) 3 (fun _ => 0)), (q_5, eI (ty 0) 900 (fun _ => 0)), (q_6, eI (ty 0) 64 (fun _ => 0)), (q_7, eI (ty 0) 8 (fun _ => 0)), (q_9, eI (ty 0) 8000 (fun _ => 0)), (q_10, eI (ty 0) 3 (fun _ => 0)), (q_11, eI (ty 0) 9000 (fun _ => 0)), (q_12, eI (ty 0) 9000 (fun _ => 0)), (q_13, eI (ty 0) 9001 (fun _ => 0)), (q_14, eI (ty 0) 8 (fun _ => 0)), (q_15, eI (ty 0) 1000 (fun _ => 0)), (q_16, eI (ty 0) 1000 (fun _ => 0)), (q_17, eI (ty 2) 256 (fun _ => 0)), (q_18, eI (ty 0) 4 tsF), (q_19, eI (ty 0) 4 (fun _ => 0)), (q_20, eJ (ty 3) 120 (fun _ => 0)), (h0, eO 9 [.ref q_1, .ref q_2, .ref q_3, .ref q_4, .int 0, .ref q_5, .int 0, .int 0, .int 0, .int 0, .int 0, .int 0, .int 0, .int 0, .int 0, .int (-1), .int 0, .int 0, .int 0, .ref q_6, .ref q_7, .ref q_8, .ref q_9, .ref q_10, .int 0, .ref q_11, .ref q_12, .ref q_13, .int 0, .int 0, .ref q_14, .ref q_15, .int 0, .ref q_16, .int 0, .int 0, .ref q_17, .ref q_18, .ref q_19, .ref q_20]), (q_1, eI (ty 0) 1875 knF), (q_8, eI (ty 0) 1000 (fun _ => 0))] H := hP
  have hD : va_D A [(q_2, eI (ty 0) 1875 (fun _ => 0)), (q_3, eI (ty 0) 5625 (fun _ => 0)), (q_4, eI (ty 2) 3 (fun _ => 0)), (q_5, eI (ty 0) 900 (fun _ => 0)), (q_6, eI (ty 0) 64 (fun _ => 0)), (q_7, eI (ty 0) 8 (fun _ => 0)), (q_9, eI (ty 0) 8000 (fun _ => 0)), (q_10, eI (ty 0) 3 (fun _ => 0)), (q_11, eI (ty 0) 9000 (fun _ => 0)), (q_12, eI (ty 0) 9000 (fun _ => 0)), (q_13, eI (ty 0) 9001 (fun _ => 0)), (q_14, eI (ty 0) 8 (fun _ => 0)), (q_15, eI (ty 0) 1000 (fun _ => 0)), (q_16, eI (ty 0) 1000 (fun _ => 0)), (q_17, eI (ty 2) 256 (fun _ => 0)), (q_18, eI (ty 0) 4 tsF), (q_19, eI (ty 0) 4 (fun _ => 0)), (q_20, eJ (ty 3) 120 (fun _ => 0)), (h0, eO 9 [.ref q_1, .ref q_2, .ref q_3, .ref q_4, .int 0, .ref q_5, .int 0, .int 0, .int 0, .int 0, .int 0, .int 0, .int 0, .int 0, .int 0, .int (-1), .int 0, .int 0, .int 0, .ref q_6, .ref q_7, .ref q_8, .ref q_9, .ref q_10, .int 0, .ref q_11, .ref q_12, .ref q_13, .int 0, .int 0, .ref q_14, .ref q_15, .int 0, .ref q_16, .int 0, .int 0, .ref q_17, .ref q_18, .ref q_19, .ref q_20]), (q_1, eI (ty 0) 1875 knF), (q_8, eI (ty 0) 1000 (fun _ => 0))] := hD
  exact ret_V (w := [(h0, eO 9 [.ref q_1, .ref q_2, .ref q_3, .ref q_4, .int 0, .ref q_5, .int 0, .int 0, .int 0, .int 0, .int 0, .int 0, .int 0, .int 0, .int 0, .int (-1), .int 0, .int 0, .int 0, .ref q_6, .ref q_7, .ref q_8, .ref q_9, .ref q_10, .int 0, .ref q_11, .ref q_12, .ref q_13, .int 0, .int 0, .ref q_14, .ref q_15, .int 0, .ref q_16, .int 0, .int 0, .ref q_17, .ref q_18, .ref q_19, .ref q_20]), (q_1, eI (ty 0) 1875 knF), (q_2, eI (ty 0) 1875 (fun _ => 0)), (q_3, eI (ty 0) 5625 (fun _ => 0)), (q_4, eI (ty 2) 3 (fun _ => 0)), (q_5, eI (ty 0) 900 (fun _ => 0)), (q_6, eI (ty 0) 64 (fun _ => 0)), (q_7, eI (ty 0) 8 (fun _ => 0)), (q_8, eI (ty 0) 1000 (fun _ => 0)), (q_9, eI (ty 0) 8000 (fun _ => 0)), (q_10, eI (ty 0) 3 (fun _ => 0)), (q_11, eI (ty 0) 9000 (fun _ => 0)), (q_12, eI (ty 0) 9000 (fun _ => 0)), (q_13, eI (ty 0) 9001 (fun _ => 0)), (q_14, eI (ty 0) 8 (fun _ => 0)), (q_15, eI (ty 0) 1000 (fun _ => 0)), (q_16, eI (ty 0) 1000 (fun _ => 0)), (q_17, eI (ty 2) 256 (fun _ => 0)), (q_18, eI (ty 0) 4 tsF), (q_19, eI (ty 0) 4 (fun _ => 0)), (q_20, eJ (ty 3) 120 (fun _ => 0))]) C hP hD hS [18, 19, 0, 1, 2, 3, 4, 5, 20, 6, 7, 8, 9, 10, 11, 12, 13, 14, 15, 16, 17] rfl rfl ⟨q_1, q_2, q_3, q_4, q_5, q_6, q_7, q_8, q_9, q_10, q_11, q_12, q_13, q_14, q_15, q_16, q_17, q_18, q_19, q_20, rfl⟩ (by decide) (by decide) d_X9_init_212
set_option maxHeartbeats 4000000 in
set_option maxRecDepth 100000 in
theorem c_thrown (l : Launch) (D : va_G) (ty : Nat → ClassId) (h0 : Nat) (k0 : Nat) (k1 : Nat) (k2 : Nat) (k3 : Nat) (k5 : Nat) (k19 : Nat) (k20 : Nat) (k21 : Nat) (k22 : Nat) (k23 : Nat) (k25 : Nat) (k26 : Nat) (k27 : Nat) (k30 : Nat) (k31 : Nat) (k33 : Nat) (k36 : Nat) (k37 : Nat) (k38 : Nat) (k39 : Nat) (u6 : Value) (u7 : Value) (u8 : Value) (u9 : Value) (u10 : Value) (u11 : Value) (u12 : Value) (u13 : Value) (u14 : Value) (u15 : Value) (u16 : Value) (u17 : Value) (u18 : Value) (u24 : Value) (u28 : Value) (u29 : Value) (u32 : Value) (u34 : Value) (u35 : Value) (th : Int32) : CC l D ty ⟨"PinchedBillModel", "thrown", "()I"⟩ prog_11_method_2_code 1 (some .int) 0 0 0 0 [.ref h0] [(h0, eO 9 [.ref k0, .ref k1, .ref k2, .ref k3, .int th, .ref k5, u6, u7, u8, u9, u10, u11, u12, u13, u14, u15, u16, u17, u18, .ref k19, .ref k20, .ref k21, .ref k22, .ref k23, u24, .ref k25, .ref k26, .ref k27, u28, u29, .ref k30, .ref k31, u32, .ref k33, u34, u35, .ref k36, .ref k37, .ref k38, .ref k39])] (QI D ty (fun (r : Int32) (w : va_W) => th = r ∧ w = [(h0, eO 9 [.ref k0, .ref k1, .ref k2, .ref k3, .int th, .ref k5, u6, u7, u8, u9, u10, u11, u12, u13, u14, u15, u16, u17, u18, .ref k19, .ref k20, .ref k21, .ref k22, .ref k23, u24, .ref k25, .ref k26, .ref k27, u28, u29, .ref k30, .ref k31, u32, .ref k33, u34, u35, .ref k36, .ref k37, .ref k38, .ref k39])])) := by
  refine CC_of (by decide) ?_
  intro p e s m below meth c A C hP hD hS
  obtain ⟨⟨hx, hb, hml, hown, hts⟩, hr, hlocks, hnm, hK, hE, hA, hZ⟩ := id C
  refine startW [.ref h0] 1 (nle rfl) (lv := [(0, .ref h0)]) rfl (fun ls hl => ?_)
  refine lv_aload_n hx hb d_X9_thrown_0 rfl (lv_at hl 0 rfl) ?_
  refine r_get (v := .int th) C hP 0 rfl rfl lay_X9 4 (by decide) k_1549 rfl d_X9_thrown_1 ?_
  exact ret_I (w := [(h0, eO 9 [.ref k0, .ref k1, .ref k2, .ref k3, .int th, .ref k5, u6, u7, u8, u9, u10, u11, u12, u13, u14, u15, u16, u17, u18, .ref k19, .ref k20, .ref k21, .ref k22, .ref k23, u24, .ref k25, .ref k26, .ref k27, u28, u29, .ref k30, .ref k31, u32, .ref k33, u34, u35, .ref k36, .ref k37, .ref k38, .ref k39])]) C hP hD hS [0] rfl rfl ⟨rfl, rfl⟩ (by decide) (by decide) d_X9_thrown_4
set_option maxHeartbeats 4000000 in
set_option maxRecDepth 100000 in
theorem c_fails (l : Launch) (D : va_G) (ty : Nat → ClassId) (h0 : Nat) (k0 : Nat) (k1 : Nat) (k2 : Nat) (k3 : Nat) (k5 : Nat) (k19 : Nat) (k20 : Nat) (k21 : Nat) (k22 : Nat) (k23 : Nat) (k25 : Nat) (k26 : Nat) (k27 : Nat) (k30 : Nat) (k31 : Nat) (k33 : Nat) (k36 : Nat) (k37 : Nat) (k38 : Nat) (k39 : Nat) (u4 : Value) (u6 : Value) (u7 : Value) (u8 : Value) (u9 : Value) (u10 : Value) (u11 : Value) (u12 : Value) (u13 : Value) (u14 : Value) (u15 : Value) (u16 : Value) (u17 : Value) (u18 : Value) (u24 : Value) (u28 : Value) (u29 : Value) (u32 : Value) (u34 : Value) (u35 : Value) (x : Int32) : CC l D ty ⟨"PinchedBillModel", "fails", "(I)I"⟩ prog_11_method_3_code 2 (some .int) 0 0 0 0 [.ref h0, .int x] [(h0, eO 9 [.ref k0, .ref k1, .ref k2, .ref k3, u4, .ref k5, u6, u7, u8, u9, u10, u11, u12, u13, u14, u15, u16, u17, u18, .ref k19, .ref k20, .ref k21, .ref k22, .ref k23, u24, .ref k25, .ref k26, .ref k27, u28, u29, .ref k30, .ref k31, u32, .ref k33, u34, u35, .ref k36, .ref k37, .ref k38, .ref k39])] (QI D ty (fun (r : Int32) (w : va_W) => 0 = r ∧ w = [(h0, eO 9 [.ref k0, .ref k1, .ref k2, .ref k3, .int x, .ref k5, u6, u7, u8, u9, u10, u11, u12, u13, u14, u15, u16, u17, u18, .ref k19, .ref k20, .ref k21, .ref k22, .ref k23, u24, .ref k25, .ref k26, .ref k27, u28, u29, .ref k30, .ref k31, u32, .ref k33, u34, u35, .ref k36, .ref k37, .ref k38, .ref k39])])) := by
  refine CC_of (by decide) ?_
  intro p e s m below meth c A C hP hD hS
  obtain ⟨⟨hx, hb, hml, hown, hts⟩, hr, hlocks, hnm, hK, hE, hA, hZ⟩ := id C
  refine startW [.ref h0, .int x] 2 (nle rfl) (lv := [(0, .ref h0), (1, .int x)]) rfl (fun ls hl => ?_)
  refine lv_aload_n hx hb d_X9_fails_0 rfl (lv_at hl 0 rfl) ?_
  refine lv_iload_n hx hb d_X9_fails_1 rfl (lv_at hl 1 rfl) ?_
  refine r_put (w := [(h0, eO 9 [.ref k0, .ref k1, .ref k2, .ref k3, .int x, .ref k5, u6, u7, u8, u9, u10, u11, u12, u13, u14, u15, u16, u17, u18, .ref k19, .ref k20, .ref k21, .ref k22, .ref k23, u24, .ref k25, .ref k26, .ref k27, u28, u29, .ref k30, .ref k31, u32, .ref k33, u34, u35, .ref k36, .ref k37, .ref k38, .ref k39])]) C hP hD hS 0 rfl rfl lay_X9 tok_X9 nmo_X9 4 (by decide) k_1549 rfl rfl rfl (nle rfl) rfl d_X9_fails_2 (fun H locs hP hD hS => ?_)
  refine lv_iconst (v := 0) hx hb d_X9_fails_5 (by decide) ?_
  exact ret_I (w := [(h0, eO 9 [.ref k0, .ref k1, .ref k2, .ref k3, .int x, .ref k5, u6, u7, u8, u9, u10, u11, u12, u13, u14, u15, u16, u17, u18, .ref k19, .ref k20, .ref k21, .ref k22, .ref k23, u24, .ref k25, .ref k26, .ref k27, u28, u29, .ref k30, .ref k31, u32, .ref k33, u34, u35, .ref k36, .ref k37, .ref k38, .ref k39])]) C hP hD hS [0] rfl rfl ⟨rfl, rfl⟩ (by decide) (by decide) d_X9_fails_6
set_option maxHeartbeats 4000000 in
set_option maxRecDepth 100000 in
theorem c_mspk (l : Launch) (D : va_G) (ty : Nat → ClassId) (h0 : Nat) (k0 : Nat) (k1 : Nat) (k2 : Nat) (k3 : Nat) (k5 : Nat) (k19 : Nat) (k20 : Nat) (k21 : Nat) (k22 : Nat) (k23 : Nat) (k25 : Nat) (k26 : Nat) (k27 : Nat) (k30 : Nat) (k31 : Nat) (k33 : Nat) (k36 : Nat) (k37 : Nat) (k38 : Nat) (k39 : Nat) (u4 : Value) (u6 : Value) (u7 : Value) (u8 : Value) (u9 : Value) (u10 : Value) (u11 : Value) (u12 : Value) (u13 : Value) (u14 : Value) (u15 : Value) (u16 : Value) (u17 : Value) (u18 : Value) (u24 : Value) (u28 : Value) (u29 : Value) (u32 : Value) (u34 : Value) (u35 : Value) (b : Nat) (la : Int32) (so : Int32) (hbd : b < 1000) : CC l D ty ⟨"PinchedBillModel", "speaker", "(III)I"⟩ prog_11_method_52_code 6 (some .int) 0 0 0 0 [.ref h0, .int (nI b), .int la, .int so] [(h0, eO 9 [.ref k0, .ref k1, .ref k2, .ref k3, u4, .ref k5, u6, u7, u8, u9, u10, u11, u12, u13, u14, u15, u16, u17, u18, .ref k19, .ref k20, .ref k21, .ref k22, .ref k23, u24, .ref k25, .ref k26, .ref k27, u28, u29, .ref k30, .ref k31, u32, .ref k33, u34, u35, .ref k36, .ref k37, .ref k38, .ref k39]), (k21, eI (ty 0) 1000 (fun _ => 0))] (QI D ty (fun (r : Int32) (w : va_W) => (-1) = r ∧ w = [(h0, eO 9 [.ref k0, .ref k1, .ref k2, .ref k3, u4, .ref k5, u6, u7, u8, u9, u10, u11, u12, u13, u14, u15, u16, u17, u18, .ref k19, .ref k20, .ref k21, .ref k22, .ref k23, u24, .ref k25, .ref k26, .ref k27, u28, u29, .ref k30, .ref k31, u32, .ref k33, u34, u35, .ref k36, .ref k37, .ref k38, .ref k39]), (k21, eI (ty 0) 1000 (fun _ => 0))])) := by
  refine CC_of (by decide) ?_
  intro p e s m below meth c A C hP hD hS
  obtain ⟨⟨hx, hb, hml, hown, hts⟩, hr, hlocks, hnm, hK, hE, hA, hZ⟩ := id C
  refine startW [.ref h0, .int (nI b), .int la, .int so] 6 (nle rfl) (lv := [(0, .ref h0), (1, .int (nI b)), (2, .int la), (3, .int so)]) rfl (fun ls hl => ?_)
  refine lv_aload_n hx hb d_X9_speaker_0 rfl (lv_at hl 0 rfl) ?_
  refine r_get (v := .ref k21) C hP 0 rfl rfl lay_X9 21 (by decide) k_1566 rfl d_X9_speaker_1 ?_
  refine lv_iload_n hx hb d_X9_speaker_4 rfl (lv_at hl 1 rfl) ?_
  refine r_iald (v := 0) C hP 1 rfl b rfl (by omega) (by decide) rfl d_X9_speaker_5 ?_
  refine lv_iload_n hx hb d_X9_speaker_6 rfl (lv_at hl 3 rfl) ?_
  refine r_iand (z := 0) C d_X9_speaker_7 (by simp) ?_
  refine lv_istore (lv' := [(4, .int 0), (0, .ref h0), (1, .int (nI b)), (2, .int la), (3, .int so)]) hx hb d_X9_speaker_8 hl (by decide) rfl (fun ls hl => ?_)
  refine lv_iload hx hb d_X9_speaker_10 (lv_at hl 0 rfl) ?_
  refine b_if_neF C 17 d_X9_speaker_12 (by decide) (by decide) ?_
  refine lv_iconst (v := (-1)) hx hb d_X9_speaker_15 (by decide) ?_
  exact ret_I (w := [(h0, eO 9 [.ref k0, .ref k1, .ref k2, .ref k3, u4, .ref k5, u6, u7, u8, u9, u10, u11, u12, u13, u14, u15, u16, u17, u18, .ref k19, .ref k20, .ref k21, .ref k22, .ref k23, u24, .ref k25, .ref k26, .ref k27, u28, u29, .ref k30, .ref k31, u32, .ref k33, u34, u35, .ref k36, .ref k37, .ref k38, .ref k39]), (k21, eI (ty 0) 1000 (fun _ => 0))]) C hP hD hS [0, 1] rfl rfl ⟨rfl, rfl⟩ (by decide) (by decide) d_X9_speaker_16
set_option maxHeartbeats 4000000 in
set_option maxRecDepth 100000 in
theorem c_mnext (l : Launch) (D : va_G) (ty : Nat → ClassId) (h0 : Nat) (k0 : Nat) (k1 : Nat) (k2 : Nat) (k3 : Nat) (k5 : Nat) (k19 : Nat) (k20 : Nat) (k21 : Nat) (k22 : Nat) (k23 : Nat) (k25 : Nat) (k26 : Nat) (k27 : Nat) (k30 : Nat) (k31 : Nat) (k33 : Nat) (k36 : Nat) (k37 : Nat) (k38 : Nat) (k39 : Nat) (u4 : Value) (u6 : Value) (u7 : Value) (u8 : Value) (u9 : Value) (u10 : Value) (u11 : Value) (u12 : Value) (u13 : Value) (u14 : Value) (u15 : Value) (u16 : Value) (u17 : Value) (u18 : Value) (u24 : Value) (u28 : Value) (u29 : Value) (u32 : Value) (u34 : Value) (u35 : Value) (kf : Nat → Int32) (b : Nat) (hkf : KF kf) (hbd : b < 1000) (hk6 : kf 6 = nI b) : CC l D ty ⟨"PinchedBillModel", "nextNow", "()I"⟩ prog_11_method_53_code 1 (some .int) 1 25 0 0 [.ref h0] [(h0, eO 9 [.ref k0, .ref k1, .ref k2, .ref k3, u4, .ref k5, u6, u7, u8, u9, u10, u11, u12, u13, u14, u15, u16, u17, u18, .ref k19, .ref k20, .ref k21, .ref k22, .ref k23, u24, .ref k25, .ref k26, .ref k27, u28, u29, .ref k30, .ref k31, u32, .ref k33, u34, u35, .ref k36, .ref k37, .ref k38, .ref k39]), (k0, eI (ty 0) 1875 kf), (k21, eI (ty 0) 1000 (fun _ => 0))] (QI D ty (fun (r : Int32) (w : va_W) => (-1) = r ∧ w = [(h0, eO 9 [.ref k0, .ref k1, .ref k2, .ref k3, u4, .ref k5, u6, u7, u8, u9, u10, u11, u12, u13, u14, u15, u16, u17, u18, .ref k19, .ref k20, .ref k21, .ref k22, .ref k23, u24, .ref k25, .ref k26, .ref k27, u28, u29, .ref k30, .ref k31, u32, .ref k33, u34, u35, .ref k36, .ref k37, .ref k38, .ref k39]), (k0, eI (ty 0) 1875 kf), (k21, eI (ty 0) 1000 (fun _ => 0))])) := by
  refine CC_of (by decide) ?_
  intro p e s m below meth c A C hP hD hS
  obtain ⟨⟨hx, hb, hml, hown, hts⟩, hr, hlocks, hnm, hK, hE, hA, hZ⟩ := id C
  refine startW [.ref h0] 1 (nle rfl) (lv := [(0, .ref h0)]) rfl (fun ls hl => ?_)
  refine lv_aload_n hx hb d_X9_nextNow_0 rfl (lv_at hl 0 rfl) ?_
  refine lv_aload_n hx hb d_X9_nextNow_1 rfl (lv_at hl 0 rfl) ?_
  refine r_get (v := .ref k0) C hP 0 rfl rfl lay_X9 0 (by decide) k_1545 rfl d_X9_nextNow_2 ?_
  refine lv_bipush (v := 6) hx hb d_X9_nextNow_5 (by decide) ?_
  refine r_iald (v := (nI b)) C hP 1 rfl 6 rfl (by decide) (by decide) hk6 d_X9_nextNow_7 ?_
  refine lv_aload_n hx hb d_X9_nextNow_8 rfl (lv_at hl 0 rfl) ?_
  refine r_get (v := .ref k0) C hP 0 rfl rfl lay_X9 0 (by decide) k_1545 rfl d_X9_nextNow_9 ?_
  refine lv_bipush (v := 7) hx hb d_X9_nextNow_12 (by decide) ?_
  refine r_iald (v := (kf 7)) C hP 1 rfl 7 rfl (by decide) (by decide) rfl d_X9_nextNow_14 ?_
  refine lv_aload_n hx hb d_X9_nextNow_15 rfl (lv_at hl 0 rfl) ?_
  refine r_get (v := .ref k0) C hP 0 rfl rfl lay_X9 0 (by decide) k_1545 rfl d_X9_nextNow_16 ?_
  refine lv_bipush (v := 8) hx hb d_X9_nextNow_19 (by decide) ?_
  refine r_iald (v := 0) C hP 1 rfl 8 rfl (by decide) (by decide) hkf.2.2 d_X9_nextNow_21 ?_
  have ct_1 : Cut [(h0, eO 9 [.ref k0, .ref k1, .ref k2, .ref k3, u4, .ref k5, u6, u7, u8, u9, u10, u11, u12, u13, u14, u15, u16, u17, u18, .ref k19, .ref k20, .ref k21, .ref k22, .ref k23, u24, .ref k25, .ref k26, .ref k27, u28, u29, .ref k30, .ref k31, u32, .ref k33, u34, u35, .ref k36, .ref k37, .ref k38, .ref k39]), (k0, eI (ty 0) 1875 kf), (k21, eI (ty 0) 1000 (fun _ => 0))] [(h0, eO 9 [.ref k0, .ref k1, .ref k2, .ref k3, u4, .ref k5, u6, u7, u8, u9, u10, u11, u12, u13, u14, u15, u16, u17, u18, .ref k19, .ref k20, .ref k21, .ref k22, .ref k23, u24, .ref k25, .ref k26, .ref k27, u28, u29, .ref k30, .ref k31, u32, .ref k33, u34, u35, .ref k36, .ref k37, .ref k38, .ref k39]), (k21, eI (ty 0) 1000 (fun _ => 0))] [(k0, eI (ty 0) 1875 kf)] [0, 2] [1] := ⟨rfl, rfl, rfl, rfl, by decide⟩
  refine cont_I C hP hD hS ct_1 (run_V (As := [.int (nI b), .int (kf 7), .int 0]) (rest := []) C hP hD hS ct_1 (c_mspk l D ty h0 k0 k1 k2 k3 k5 k19 k20 k21 k22 k23 k25 k26 k27 k30 k31 k33 k36 k37 k38 k39 u4 u6 u7 u8 u9 u10 u11 u12 u13 u14 u15 u16 u17 u18 u24 u28 u29 u32 u34 u35 b (kf 7) 0 hbd) kV_PinchedBillModel_314 0 rfl rfl rfl rfl hl.1 rfl (nle rfl) d_X9_nextNow_22 ⟨by decide, by decide, by decide, by decide⟩) (fun r_3 w_4 H locs hw_2 hP hD hS => ?_)
  obtain ⟨rfl, rfl⟩ := hw_2
  have hP : va_P D vwCl [(k0, eI (ty 0) 1875 kf), (h0, eO 9 [.ref k0, .ref k1, .ref k2, .ref k3, u4, .ref k5, u6, u7, u8, u9, u10, u11, u12, u13, u14, u15, u16, u17, u18, .ref k19, .ref k20, .ref k21, .ref k22, .ref k23, u24, .ref k25, .ref k26, .ref k27, u28, u29, .ref k30, .ref k31, u32, .ref k33, u34, u35, .ref k36, .ref k37, .ref k38, .ref k39]), (k21, eI (ty 0) 1000 (fun _ => 0))] H := hP
  have hD : va_D A [(k0, eI (ty 0) 1875 kf), (h0, eO 9 [.ref k0, .ref k1, .ref k2, .ref k3, u4, .ref k5, u6, u7, u8, u9, u10, u11, u12, u13, u14, u15, u16, u17, u18, .ref k19, .ref k20, .ref k21, .ref k22, .ref k23, u24, .ref k25, .ref k26, .ref k27, u28, u29, .ref k30, .ref k31, u32, .ref k33, u34, u35, .ref k36, .ref k37, .ref k38, .ref k39]), (k21, eI (ty 0) 1000 (fun _ => 0))] := hD
  exact ret_I (w := [(h0, eO 9 [.ref k0, .ref k1, .ref k2, .ref k3, u4, .ref k5, u6, u7, u8, u9, u10, u11, u12, u13, u14, u15, u16, u17, u18, .ref k19, .ref k20, .ref k21, .ref k22, .ref k23, u24, .ref k25, .ref k26, .ref k27, u28, u29, .ref k30, .ref k31, u32, .ref k33, u34, u35, .ref k36, .ref k37, .ref k38, .ref k39]), (k0, eI (ty 0) 1875 kf), (k21, eI (ty 0) 1000 (fun _ => 0))]) C hP hD hS [1, 0, 2] rfl rfl ⟨rfl, rfl⟩ (by decide) (by decide) d_X9_nextNow_25
set_option maxHeartbeats 4000000 in
set_option maxRecDepth 100000 in
theorem c_mnext0 (l : Launch) (D : va_G) (ty : Nat → ClassId) (h0 : Nat) (k0 : Nat) (k1 : Nat) (k2 : Nat) (k3 : Nat) (k5 : Nat) (k19 : Nat) (k20 : Nat) (k21 : Nat) (k22 : Nat) (k23 : Nat) (k25 : Nat) (k26 : Nat) (k27 : Nat) (k30 : Nat) (k31 : Nat) (k33 : Nat) (k36 : Nat) (k37 : Nat) (k38 : Nat) (k39 : Nat) (u4 : Value) (u6 : Value) (u7 : Value) (u8 : Value) (u9 : Value) (u10 : Value) (u11 : Value) (u12 : Value) (u13 : Value) (u14 : Value) (u15 : Value) (u16 : Value) (u17 : Value) (u18 : Value) (u24 : Value) (u28 : Value) (u29 : Value) (u32 : Value) (u34 : Value) (u35 : Value) : CC l D ty ⟨"PinchedBillModel", "nextNow", "()I"⟩ prog_11_method_53_code 1 (some .int) 1 25 0 0 [.ref h0] [(h0, eO 9 [.ref k0, .ref k1, .ref k2, .ref k3, u4, .ref k5, u6, u7, u8, u9, u10, u11, u12, u13, u14, u15, u16, u17, u18, .ref k19, .ref k20, .ref k21, .ref k22, .ref k23, u24, .ref k25, .ref k26, .ref k27, u28, u29, .ref k30, .ref k31, u32, .ref k33, u34, u35, .ref k36, .ref k37, .ref k38, .ref k39]), (k0, eI (ty 0) 1875 knF), (k21, eI (ty 0) 1000 (fun _ => 0))] (QI D ty (fun (r : Int32) (w : va_W) => (-1) = r ∧ w = [(h0, eO 9 [.ref k0, .ref k1, .ref k2, .ref k3, u4, .ref k5, u6, u7, u8, u9, u10, u11, u12, u13, u14, u15, u16, u17, u18, .ref k19, .ref k20, .ref k21, .ref k22, .ref k23, u24, .ref k25, .ref k26, .ref k27, u28, u29, .ref k30, .ref k31, u32, .ref k33, u34, u35, .ref k36, .ref k37, .ref k38, .ref k39])])) := by
  refine CC_of (by decide) ?_
  intro p e s m below meth c A C hP hD hS
  obtain ⟨⟨hx, hb, hml, hown, hts⟩, hr, hlocks, hnm, hK, hE, hA, hZ⟩ := id C
  refine startW [.ref h0] 1 (nle rfl) (lv := [(0, .ref h0)]) rfl (fun ls hl => ?_)
  refine lv_aload_n hx hb d_X9_nextNow_0 rfl (lv_at hl 0 rfl) ?_
  refine lv_aload_n hx hb d_X9_nextNow_1 rfl (lv_at hl 0 rfl) ?_
  refine r_get (v := .ref k0) C hP 0 rfl rfl lay_X9 0 (by decide) k_1545 rfl d_X9_nextNow_2 ?_
  refine lv_bipush (v := 6) hx hb d_X9_nextNow_5 (by decide) ?_
  refine r_iald (v := 0) C hP 1 rfl 6 rfl (by decide) (by decide) rfl d_X9_nextNow_7 ?_
  refine lv_aload_n hx hb d_X9_nextNow_8 rfl (lv_at hl 0 rfl) ?_
  refine r_get (v := .ref k0) C hP 0 rfl rfl lay_X9 0 (by decide) k_1545 rfl d_X9_nextNow_9 ?_
  refine lv_bipush (v := 7) hx hb d_X9_nextNow_12 (by decide) ?_
  refine r_iald (v := (-1)) C hP 1 rfl 7 rfl (by decide) (by decide) rfl d_X9_nextNow_14 ?_
  refine lv_aload_n hx hb d_X9_nextNow_15 rfl (lv_at hl 0 rfl) ?_
  refine r_get (v := .ref k0) C hP 0 rfl rfl lay_X9 0 (by decide) k_1545 rfl d_X9_nextNow_16 ?_
  refine lv_bipush (v := 8) hx hb d_X9_nextNow_19 (by decide) ?_
  refine r_iald (v := 0) C hP 1 rfl 8 rfl (by decide) (by decide) rfl d_X9_nextNow_21 ?_
  have ct_1 : Cut [(h0, eO 9 [.ref k0, .ref k1, .ref k2, .ref k3, u4, .ref k5, u6, u7, u8, u9, u10, u11, u12, u13, u14, u15, u16, u17, u18, .ref k19, .ref k20, .ref k21, .ref k22, .ref k23, u24, .ref k25, .ref k26, .ref k27, u28, u29, .ref k30, .ref k31, u32, .ref k33, u34, u35, .ref k36, .ref k37, .ref k38, .ref k39]), (k0, eI (ty 0) 1875 knF), (k21, eI (ty 0) 1000 (fun _ => 0))] [(h0, eO 9 [.ref k0, .ref k1, .ref k2, .ref k3, u4, .ref k5, u6, u7, u8, u9, u10, u11, u12, u13, u14, u15, u16, u17, u18, .ref k19, .ref k20, .ref k21, .ref k22, .ref k23, u24, .ref k25, .ref k26, .ref k27, u28, u29, .ref k30, .ref k31, u32, .ref k33, u34, u35, .ref k36, .ref k37, .ref k38, .ref k39]), (k21, eI (ty 0) 1000 (fun _ => 0))] [(k0, eI (ty 0) 1875 knF)] [0, 2] [1] := ⟨rfl, rfl, rfl, rfl, by decide⟩
  refine cont_I C hP hD hS ct_1 (run_V (As := [.int 0, .int (-1), .int 0]) (rest := []) C hP hD hS ct_1 (c_mspk l D ty h0 k0 k1 k2 k3 k5 k19 k20 k21 k22 k23 k25 k26 k27 k30 k31 k33 k36 k37 k38 k39 u4 u6 u7 u8 u9 u10 u11 u12 u13 u14 u15 u16 u17 u18 u24 u28 u29 u32 u34 u35 0 (-1) 0 (by omega)) kV_PinchedBillModel_314 0 rfl rfl rfl rfl hl.1 rfl (nle rfl) d_X9_nextNow_22 ⟨by decide, by decide, by decide, by decide⟩) (fun r_3 w_4 H locs hw_2 hP hD hS => ?_)
  obtain ⟨rfl, rfl⟩ := hw_2
  have hP : va_P D vwCl [(k0, eI (ty 0) 1875 knF), (h0, eO 9 [.ref k0, .ref k1, .ref k2, .ref k3, u4, .ref k5, u6, u7, u8, u9, u10, u11, u12, u13, u14, u15, u16, u17, u18, .ref k19, .ref k20, .ref k21, .ref k22, .ref k23, u24, .ref k25, .ref k26, .ref k27, u28, u29, .ref k30, .ref k31, u32, .ref k33, u34, u35, .ref k36, .ref k37, .ref k38, .ref k39]), (k21, eI (ty 0) 1000 (fun _ => 0))] H := hP
  have hD : va_D A [(k0, eI (ty 0) 1875 knF), (h0, eO 9 [.ref k0, .ref k1, .ref k2, .ref k3, u4, .ref k5, u6, u7, u8, u9, u10, u11, u12, u13, u14, u15, u16, u17, u18, .ref k19, .ref k20, .ref k21, .ref k22, .ref k23, u24, .ref k25, .ref k26, .ref k27, u28, u29, .ref k30, .ref k31, u32, .ref k33, u34, u35, .ref k36, .ref k37, .ref k38, .ref k39]), (k21, eI (ty 0) 1000 (fun _ => 0))] := hD
  exact ret_I (w := [(h0, eO 9 [.ref k0, .ref k1, .ref k2, .ref k3, u4, .ref k5, u6, u7, u8, u9, u10, u11, u12, u13, u14, u15, u16, u17, u18, .ref k19, .ref k20, .ref k21, .ref k22, .ref k23, u24, .ref k25, .ref k26, .ref k27, u28, u29, .ref k30, .ref k31, u32, .ref k33, u34, u35, .ref k36, .ref k37, .ref k38, .ref k39])]) C hP hD hS [1] rfl rfl ⟨rfl, rfl⟩ (by decide) (by decide) d_X9_nextNow_25
set_option maxHeartbeats 4000000 in
set_option maxRecDepth 100000 in
theorem c_mst (l : Launch) (D : va_G) (ty : Nat → ClassId) (b : Nat) (hbd : b < 1000) : CC l D ty ⟨"PinchedBillModel", "stateOf", "(II)I"⟩ prog_11_method_79_code 2 (some .int) 0 0 0 0 [.int (nI b), .int (-1)] [] (QI D ty (fun (r : Int32) (w : va_W) => (nI (9 * b)) = r ∧ w = [])) := by
  refine CC_of (by decide) ?_
  intro p e s m below meth c A C hP hD hS
  obtain ⟨⟨hx, hb, hml, hown, hts⟩, hr, hlocks, hnm, hK, hE, hA, hZ⟩ := id C
  refine startW [.int (nI b), .int (-1)] 2 (nle rfl) (lv := [(0, .int (nI b)), (1, .int (-1))]) rfl (fun ls hl => ?_)
  refine lv_bipush (v := 9) hx hb d_X9_stateOf_0 (by decide) ?_
  refine lv_iload_n hx hb d_X9_stateOf_2 rfl (lv_at hl 0 rfl) ?_
  refine r_imul (z := (nI (9 * b))) C d_X9_stateOf_3 (a_mul 9 b (9 * b) rfl rfl (by omega)) ?_
  refine lv_iload_n hx hb d_X9_stateOf_4 rfl (lv_at hl 1 rfl) ?_
  refine r_iadd (z := ((nI (9 * b)) + (-1))) C d_X9_stateOf_5 rfl ?_
  refine lv_iconst (v := 1) hx hb d_X9_stateOf_6 (by decide) ?_
  refine r_iadd (z := (nI (9 * b))) C d_X9_stateOf_7 (m1p1 (9 * b)) ?_
  exact ret_I (w := []) C hP hD hS [] rfl rfl ⟨rfl, rfl⟩ (by decide) (by decide) d_X9_stateOf_8
set_option maxHeartbeats 4000000 in
set_option maxRecDepth 100000 in
theorem c_monw (l : Launch) (D : va_G) (ty : Nat → ClassId) (h0 : Nat) (k0 : Nat) (k1 : Nat) (k2 : Nat) (k3 : Nat) (k5 : Nat) (k19 : Nat) (k20 : Nat) (k21 : Nat) (k22 : Nat) (k23 : Nat) (k25 : Nat) (k26 : Nat) (k27 : Nat) (k30 : Nat) (k31 : Nat) (k33 : Nat) (k36 : Nat) (k37 : Nat) (k38 : Nat) (k39 : Nat) (u4 : Value) (u6 : Value) (u7 : Value) (u8 : Value) (u9 : Value) (u10 : Value) (u11 : Value) (u12 : Value) (u13 : Value) (u14 : Value) (u15 : Value) (u16 : Value) (u17 : Value) (u18 : Value) (u24 : Value) (u28 : Value) (u29 : Value) (u32 : Value) (u34 : Value) (u35 : Value) (b : Nat) (so : Int32) (hbd : b < 1000) : CC l D ty ⟨"PinchedBillModel", "onward", "(II)I"⟩ prog_11_method_80_code 5 (some .int) 1 25 0 0 [.ref h0, .int (nI (9 * b)), .int so] [(h0, eO 9 [.ref k0, .ref k1, .ref k2, .ref k3, u4, .ref k5, u6, u7, u8, u9, u10, u11, u12, u13, u14, u15, u16, u17, u18, .ref k19, .ref k20, .ref k21, .ref k22, .ref k23, u24, .ref k25, .ref k26, .ref k27, u28, u29, .ref k30, .ref k31, u32, .ref k33, u34, u35, .ref k36, .ref k37, .ref k38, .ref k39]), (k21, eI (ty 0) 1000 (fun _ => 0))] (QI D ty (fun (r : Int32) (w : va_W) => (-1) = r ∧ w = [(h0, eO 9 [.ref k0, .ref k1, .ref k2, .ref k3, u4, .ref k5, u6, u7, u8, u9, u10, u11, u12, u13, u14, u15, u16, u17, u18, .ref k19, .ref k20, .ref k21, .ref k22, .ref k23, u24, .ref k25, .ref k26, .ref k27, u28, u29, .ref k30, .ref k31, u32, .ref k33, u34, u35, .ref k36, .ref k37, .ref k38, .ref k39]), (k21, eI (ty 0) 1000 (fun _ => 0))])) := by
  refine CC_of (by decide) ?_
  intro p e s m below meth c A C hP hD hS
  obtain ⟨⟨hx, hb, hml, hown, hts⟩, hr, hlocks, hnm, hK, hE, hA, hZ⟩ := id C
  refine startW [.ref h0, .int (nI (9 * b)), .int so] 5 (nle rfl) (lv := [(0, .ref h0), (1, .int (nI (9 * b))), (2, .int so)]) rfl (fun ls hl => ?_)
  refine lv_iload_n hx hb d_X9_onward_0 rfl (lv_at hl 1 rfl) ?_
  refine lv_bipush (v := 9) hx hb d_X9_onward_1 (by decide) ?_
  refine r_idiv (z := (nI ((9 * b) / 9))) C d_X9_onward_3 (by decide) (a_div (9 * b) 9 ((9 * b) / 9) rfl rfl (by omega) (by omega) (by omega) rfl) ?_
  refine lv_istore_n (lv' := [(3, .int (nI ((9 * b) / 9))), (0, .ref h0), (1, .int (nI (9 * b))), (2, .int so)]) hx hb d_X9_onward_4 rfl hl (by decide) rfl (fun ls hl => ?_)
  refine lv_aload_n hx hb d_X9_onward_5 rfl (lv_at hl 1 rfl) ?_
  refine lv_iload_n hx hb d_X9_onward_6 rfl (lv_at hl 0 rfl) ?_
  refine lv_iload_n hx hb d_X9_onward_7 rfl (lv_at hl 2 rfl) ?_
  refine lv_bipush (v := 9) hx hb d_X9_onward_8 (by decide) ?_
  refine r_irem (z := (nI ((9 * b) % 9))) C d_X9_onward_10 (by decide) (a_rem (9 * b) 9 ((9 * b) % 9) rfl rfl (by omega) (by omega) (by omega) rfl) ?_
  refine lv_iconst (v := 1) hx hb d_X9_onward_11 (by decide) ?_
  refine r_isub (z := ((nI ((9 * b) % 9)) - 1)) C d_X9_onward_12 rfl ?_
  refine lv_iload_n hx hb d_X9_onward_13 rfl (lv_at hl 3 rfl) ?_
  have ct_1 : Cut [(h0, eO 9 [.ref k0, .ref k1, .ref k2, .ref k3, u4, .ref k5, u6, u7, u8, u9, u10, u11, u12, u13, u14, u15, u16, u17, u18, .ref k19, .ref k20, .ref k21, .ref k22, .ref k23, u24, .ref k25, .ref k26, .ref k27, u28, u29, .ref k30, .ref k31, u32, .ref k33, u34, u35, .ref k36, .ref k37, .ref k38, .ref k39]), (k21, eI (ty 0) 1000 (fun _ => 0))] [(h0, eO 9 [.ref k0, .ref k1, .ref k2, .ref k3, u4, .ref k5, u6, u7, u8, u9, u10, u11, u12, u13, u14, u15, u16, u17, u18, .ref k19, .ref k20, .ref k21, .ref k22, .ref k23, u24, .ref k25, .ref k26, .ref k27, u28, u29, .ref k30, .ref k31, u32, .ref k33, u34, u35, .ref k36, .ref k37, .ref k38, .ref k39]), (k21, eI (ty 0) 1000 (fun _ => 0))] [] [0, 1] [] := ⟨rfl, rfl, rfl, rfl, by decide⟩
  refine cont_I C hP hD hS ct_1 (run_V (As := [.int (nI ((9 * b) / 9)), .int ((nI ((9 * b) % 9)) - 1), .int so]) (rest := []) C hP hD hS ct_1 (c_mspk l D ty h0 k0 k1 k2 k3 k5 k19 k20 k21 k22 k23 k25 k26 k27 k30 k31 k33 k36 k37 k38 k39 u4 u6 u7 u8 u9 u10 u11 u12 u13 u14 u15 u16 u17 u18 u24 u28 u29 u32 u34 u35 ((9 * b) / 9) ((nI ((9 * b) % 9)) - 1) so (by omega)) kV_PinchedBillModel_314 0 rfl rfl rfl rfl hl.1 rfl (nle rfl) d_X9_onward_14 ⟨by decide, by decide, by decide, by decide⟩) (fun r_3 w_4 H locs hw_2 hP hD hS => ?_)
  obtain ⟨rfl, rfl⟩ := hw_2
  have hP : va_P D vwCl [(h0, eO 9 [.ref k0, .ref k1, .ref k2, .ref k3, u4, .ref k5, u6, u7, u8, u9, u10, u11, u12, u13, u14, u15, u16, u17, u18, .ref k19, .ref k20, .ref k21, .ref k22, .ref k23, u24, .ref k25, .ref k26, .ref k27, u28, u29, .ref k30, .ref k31, u32, .ref k33, u34, u35, .ref k36, .ref k37, .ref k38, .ref k39]), (k21, eI (ty 0) 1000 (fun _ => 0))] H := hP
  have hD : va_D A [(h0, eO 9 [.ref k0, .ref k1, .ref k2, .ref k3, u4, .ref k5, u6, u7, u8, u9, u10, u11, u12, u13, u14, u15, u16, u17, u18, .ref k19, .ref k20, .ref k21, .ref k22, .ref k23, u24, .ref k25, .ref k26, .ref k27, u28, u29, .ref k30, .ref k31, u32, .ref k33, u34, u35, .ref k36, .ref k37, .ref k38, .ref k39]), (k21, eI (ty 0) 1000 (fun _ => 0))] := hD
  refine lv_istore (lv' := [(4, .int (-1)), (3, .int (nI ((9 * b) / 9))), (0, .ref h0), (1, .int (nI (9 * b))), (2, .int so)]) hx hb d_X9_onward_17 hl (by decide) rfl (fun ls hl => ?_)
  refine lv_iload hx hb d_X9_onward_19 (lv_at hl 0 rfl) ?_
  refine lv_iconst (v := (-1)) hx hb d_X9_onward_21 (by decide) ?_
  refine b_icmp_neF C 29 d_X9_onward_22 (by decide) (by decide) ?_
  refine lv_iconst (v := (-1)) hx hb d_X9_onward_25 (by decide) ?_
  refine lv_goto (tgt := 46) hx hb d_X9_onward_26 (by decide) ?_
  exact ret_I (w := [(h0, eO 9 [.ref k0, .ref k1, .ref k2, .ref k3, u4, .ref k5, u6, u7, u8, u9, u10, u11, u12, u13, u14, u15, u16, u17, u18, .ref k19, .ref k20, .ref k21, .ref k22, .ref k23, u24, .ref k25, .ref k26, .ref k27, u28, u29, .ref k30, .ref k31, u32, .ref k33, u34, u35, .ref k36, .ref k37, .ref k38, .ref k39]), (k21, eI (ty 0) 1000 (fun _ => 0))]) C hP hD hS [0, 1] rfl rfl ⟨rfl, rfl⟩ (by decide) (by decide) d_X9_onward_46
set_option maxHeartbeats 4000000 in
set_option maxRecDepth 100000 in
theorem c_mforg (l : Launch) (D : va_G) (ty : Nat → ClassId) (h0 : Nat) (k0 : Nat) (k1 : Nat) (k2 : Nat) (k3 : Nat) (k5 : Nat) (k19 : Nat) (k20 : Nat) (k21 : Nat) (k22 : Nat) (k23 : Nat) (k25 : Nat) (k26 : Nat) (k27 : Nat) (k30 : Nat) (k31 : Nat) (k33 : Nat) (k36 : Nat) (k37 : Nat) (k38 : Nat) (k39 : Nat) (u4 : Value) (u6 : Value) (u7 : Value) (u8 : Value) (u9 : Value) (u10 : Value) (u11 : Value) (u12 : Value) (u13 : Value) (u14 : Value) (u15 : Value) (u16 : Value) (u17 : Value) (u18 : Value) (u24 : Value) (u28 : Value) (u29 : Value) (u32 : Value) (u34 : Value) (u35 : Value) (en : Nat → Int32) : CC l D ty ⟨"PinchedBillModel", "forgets", "()V"⟩ prog_11_method_81_code 2 none 0 0 0 0 [.ref h0] [(h0, eO 9 [.ref k0, .ref k1, .ref k2, .ref k3, u4, .ref k5, u6, u7, u8, u9, u10, u11, u12, u13, u14, u15, u16, u17, u18, .ref k19, .ref k20, .ref k21, .ref k22, .ref k23, u24, .ref k25, .ref k26, .ref k27, u28, u29, .ref k30, .ref k31, u32, .ref k33, u34, u35, .ref k36, .ref k37, .ref k38, .ref k39]), (k25, eI (ty 0) 9000 en)] (QV D ty (fun (w : va_W) => ∃ (e9 : Nat → Int32), (∀ j, j < 9000 → e9 j = (-2)) ∧ w = [(h0, eO 9 [.ref k0, .ref k1, .ref k2, .ref k3, u4, .ref k5, u6, u7, u8, u9, u10, u11, u12, u13, u14, u15, u16, u17, u18, .ref k19, .ref k20, .ref k21, .ref k22, .ref k23, u24, .ref k25, .ref k26, .ref k27, u28, u29, .ref k30, .ref k31, u32, .ref k33, u34, u35, .ref k36, .ref k37, .ref k38, .ref k39]), (k25, eI (ty 0) 9000 e9)])) := by
  refine CC_of (by decide) ?_
  intro p e s m below meth c A C hP hD hS
  obtain ⟨⟨hx, hb, hml, hown, hts⟩, hr, hlocks, hnm, hK, hE, hA, hZ⟩ := id C
  refine startW [.ref h0] 2 (nle rfl) (lv := [(0, .ref h0)]) rfl (fun ls hl => ?_)
  refine lv_iconst (v := 0) hx hb d_X9_forgets_0 (by decide) ?_
  refine lv_istore_n (lv' := [(1, .int 0), (0, .ref h0)]) hx hb d_X9_forgets_1 rfl hl (by decide) rfl (fun ls hl => ?_)
  refine loopW2 (fun (i : Nat) (g : Nat → Int32) (H : Heap) (locs : List Loc) (ls : Array Slot) => (i ≤ 9000) ∧ (∀ j, j < i → g j = (-2)) ∧ va_P D vwCl [(h0, eO 9 [.ref k0, .ref k1, .ref k2, .ref k3, u4, .ref k5, u6, u7, u8, u9, u10, u11, u12, u13, u14, u15, u16, u17, u18, .ref k19, .ref k20, .ref k21, .ref k22, .ref k23, u24, .ref k25, .ref k26, .ref k27, u28, u29, .ref k30, .ref k31, u32, .ref k33, u34, u35, .ref k36, .ref k37, .ref k38, .ref k39]), (k25, eI (ty 0) 9000 g)] H ∧ va_D A [(h0, eO 9 [.ref k0, .ref k1, .ref k2, .ref k3, u4, .ref k5, u6, u7, u8, u9, u10, u11, u12, u13, u14, u15, u16, u17, u18, .ref k19, .ref k20, .ref k21, .ref k22, .ref k23, u24, .ref k25, .ref k26, .ref k27, u28, u29, .ref k30, .ref k31, u32, .ref k33, u34, u35, .ref k36, .ref k37, .ref k38, .ref k39]), (k25, eI (ty 0) 9000 g)] ∧ va_S A s.heap H locs ∧ lv_has ls 2 [(1, .int (nI i)), (0, .ref h0)]) (fun (i : Nat) (g : Nat → Int32) => 9000 - i) ?_ 0 en ⟨(by omega), (fun j h => absurd h (by omega)), hP, hD, hS, lv_sub hl [0, 1] rfl⟩
  intro i g H locs ls hI ih_1
  obtain ⟨hi, hg, hP, hD, hS, hl⟩ := hI
  refine lv_iload_n hx hb d_X9_forgets_2 rfl (lv_at hl 0 rfl) ?_
  refine lv_sipush (v := 9000) hx hb d_X9_forgets_3 (by decide) ?_
  refine lv_icmp_ge (tgt := 23) hx hb d_X9_forgets_6 (by decide) (fun hc_2 => ?_) (fun hc_2 => ?_)
  · have hc_2 := un_le 9000 i rfl rfl (by omega) (by omega) hc_2
    exact ret_V (w := [(h0, eO 9 [.ref k0, .ref k1, .ref k2, .ref k3, u4, .ref k5, u6, u7, u8, u9, u10, u11, u12, u13, u14, u15, u16, u17, u18, .ref k19, .ref k20, .ref k21, .ref k22, .ref k23, u24, .ref k25, .ref k26, .ref k27, u28, u29, .ref k30, .ref k31, u32, .ref k33, u34, u35, .ref k36, .ref k37, .ref k38, .ref k39]), (k25, eI (ty 0) 9000 g)]) C hP hD hS [0, 1] rfl rfl ⟨g, (fun j h => hg j (by omega)), rfl⟩ (by decide) (by decide) d_X9_forgets_23
  · have hc_2 := un_nle 9000 i rfl rfl (by omega) (by omega) hc_2
    refine lv_aload_n hx hb d_X9_forgets_9 rfl (lv_at hl 1 rfl) ?_
    refine r_get (v := .ref k25) C hP 0 rfl rfl lay_X9 25 (by decide) k_1570 rfl d_X9_forgets_10 ?_
    refine lv_iload_n hx hb d_X9_forgets_13 rfl (lv_at hl 0 rfl) ?_
    refine lv_bipush (v := (-2)) hx hb d_X9_forgets_14 (by decide) ?_
    refine r_iast (w := [(h0, eO 9 [.ref k0, .ref k1, .ref k2, .ref k3, u4, .ref k5, u6, u7, u8, u9, u10, u11, u12, u13, u14, u15, u16, u17, u18, .ref k19, .ref k20, .ref k21, .ref k22, .ref k23, u24, .ref k25, .ref k26, .ref k27, u28, u29, .ref k30, .ref k31, u32, .ref k33, u34, u35, .ref k36, .ref k37, .ref k38, .ref k39]), (k25, eI (ty 0) 9000 (upd g i (-2)))]) C hP hD hS 1 rfl i rfl (by omega) (by decide) rfl d_X9_forgets_16 (fun H locs hP hD hS => ?_)
    refine lv_iinc (v := (nI (i + 1))) (lv' := [(1, .int (nI (i + 1))), (0, .ref h0)]) (k := 0) hx hb d_X9_forgets_17 hl rfl (a_inc i 1 (i + 1) rfl rfl) (by decide) rfl (fun ls hl => ?_)
    refine lv_goto (tgt := 2) hx hb d_X9_forgets_20 (by decide) ?_
    exact ih_1 (i + 1) (upd g i (-2)) _ _ _ (by omega) ⟨(by omega), (up_I hg rfl), sub_P hP (is := [0, 1]) rfl, hD.sub [0, 1] (by decide) rfl, hS, lv_sub hl [0, 1] rfl⟩
set_option maxHeartbeats 4000000 in
set_option maxRecDepth 100000 in
theorem c_mlf (l : Launch) (D : va_G) (ty : Nat → ClassId) (h0 : Nat) (k0 : Nat) (k1 : Nat) (k2 : Nat) (k3 : Nat) (k5 : Nat) (k19 : Nat) (k20 : Nat) (k21 : Nat) (k22 : Nat) (k23 : Nat) (k25 : Nat) (k26 : Nat) (k27 : Nat) (k30 : Nat) (k31 : Nat) (k33 : Nat) (k36 : Nat) (k37 : Nat) (k38 : Nat) (k39 : Nat) (u4 : Value) (u6 : Value) (u7 : Value) (u8 : Value) (u9 : Value) (u10 : Value) (u11 : Value) (u12 : Value) (u13 : Value) (u14 : Value) (u15 : Value) (u16 : Value) (u17 : Value) (u18 : Value) (u24 : Value) (u28 : Value) (u29 : Value) (u32 : Value) (u34 : Value) (u35 : Value) (en : Nat → Int32) (st : Nat → Int32) (wy : Nat → Int32) (b : Nat) (so : Int32) (hbd : b < 1000) (hun : en (9 * b) = (-2)) : CC l D ty ⟨"PinchedBillModel", "laysFrom", "(II)V"⟩ prog_11_method_82_code 9 none 2 49 0 0 [.ref h0, .int (nI (9 * b)), .int so] [(h0, eO 9 [.ref k0, .ref k1, .ref k2, .ref k3, u4, .ref k5, u6, u7, u8, u9, u10, u11, u12, u13, u14, u15, u16, u17, u18, .ref k19, .ref k20, .ref k21, .ref k22, .ref k23, u24, .ref k25, .ref k26, .ref k27, u28, u29, .ref k30, .ref k31, u32, .ref k33, u34, u35, .ref k36, .ref k37, .ref k38, .ref k39]), (k25, eI (ty 0) 9000 en), (k26, eI (ty 0) 9000 st), (k27, eI (ty 0) 9001 wy), (k21, eI (ty 0) 1000 (fun _ => 0))] (QV D ty (fun (w : va_W) => ∃ (e9 : Nat → Int32) (s9 : Nat → Int32) (y9 : Nat → Int32), (e9 (9 * b) = nI b) ∧ (∀ j, j ≠ 9 * b → e9 j = en j) ∧ (s9 (9 * b) = 0) ∧ (∀ j, j ≠ 9 * b → s9 j = st j) ∧ w = [(h0, eO 9 [.ref k0, .ref k1, .ref k2, .ref k3, u4, .ref k5, u6, u7, u8, u9, u10, u11, u12, u13, u14, u15, u16, u17, u18, .ref k19, .ref k20, .ref k21, .ref k22, .ref k23, u24, .ref k25, .ref k26, .ref k27, u28, u29, .ref k30, .ref k31, u32, .ref k33, u34, u35, .ref k36, .ref k37, .ref k38, .ref k39]), (k25, eI (ty 0) 9000 e9), (k26, eI (ty 0) 9000 s9), (k27, eI (ty 0) 9001 y9), (k21, eI (ty 0) 1000 (fun _ => 0))])) := by
  refine CC_of (by decide) ?_
  intro p e s m below meth c A C hP hD hS
  obtain ⟨⟨hx, hb, hml, hown, hts⟩, hr, hlocks, hnm, hK, hE, hA, hZ⟩ := id C
  refine startW [.ref h0, .int (nI (9 * b)), .int so] 9 (nle rfl) (lv := [(0, .ref h0), (1, .int (nI (9 * b))), (2, .int so)]) rfl (fun ls hl => ?_)
  refine lv_iconst (v := 0) hx hb d_X9_laysFrom_0 (by decide) ?_
  refine lv_istore_n (lv' := [(3, .int 0), (0, .ref h0), (1, .int (nI (9 * b))), (2, .int so)]) hx hb d_X9_laysFrom_1 rfl hl (by decide) rfl (fun ls hl => ?_)
  refine lv_iload_n hx hb d_X9_laysFrom_2 rfl (lv_at hl 2 rfl) ?_
  refine lv_istore (lv' := [(4, .int (nI (9 * b))), (3, .int 0), (0, .ref h0), (1, .int (nI (9 * b))), (2, .int so)]) hx hb d_X9_laysFrom_3 hl (by decide) rfl (fun ls hl => ?_)
  refine lv_iload hx hb d_X9_laysFrom_5 (lv_at hl 0 rfl) ?_
  refine lv_iconst (v := (-1)) hx hb d_X9_laysFrom_7 (by decide) ?_
  refine b_icmp_eqF C 55 d_X9_laysFrom_8 (by decide) (n_neneg (9 * b) rfl (by omega) (by decide)) ?_
  refine lv_aload_n hx hb d_X9_laysFrom_11 rfl (lv_at hl 2 rfl) ?_
  refine r_get (v := .ref k25) C hP 0 rfl rfl lay_X9 25 (by decide) k_1570 rfl d_X9_laysFrom_12 ?_
  refine lv_iload hx hb d_X9_laysFrom_15 (lv_at hl 0 rfl) ?_
  refine r_iald (v := (-2)) C hP 1 rfl (9 * b) rfl (by omega) (by decide) hun d_X9_laysFrom_17 ?_
  refine lv_bipush (v := (-2)) hx hb d_X9_laysFrom_18 (by decide) ?_
  refine b_icmp_neF C 55 d_X9_laysFrom_20 (by decide) (by decide) ?_
  refine lv_aload_n hx hb d_X9_laysFrom_23 rfl (lv_at hl 2 rfl) ?_
  refine r_get (v := .ref k25) C hP 0 rfl rfl lay_X9 25 (by decide) k_1570 rfl d_X9_laysFrom_24 ?_
  refine lv_iload hx hb d_X9_laysFrom_27 (lv_at hl 0 rfl) ?_
  refine lv_bipush (v := (-3)) hx hb d_X9_laysFrom_29 (by decide) ?_
  refine r_iast (w := [(h0, eO 9 [.ref k0, .ref k1, .ref k2, .ref k3, u4, .ref k5, u6, u7, u8, u9, u10, u11, u12, u13, u14, u15, u16, u17, u18, .ref k19, .ref k20, .ref k21, .ref k22, .ref k23, u24, .ref k25, .ref k26, .ref k27, u28, u29, .ref k30, .ref k31, u32, .ref k33, u34, u35, .ref k36, .ref k37, .ref k38, .ref k39]), (k25, eI (ty 0) 9000 (upd en (9 * b) (-3))), (k26, eI (ty 0) 9000 st), (k27, eI (ty 0) 9001 wy), (k21, eI (ty 0) 1000 (fun _ => 0))]) C hP hD hS 1 rfl (9 * b) rfl (by omega) (by decide) rfl d_X9_laysFrom_31 (fun H locs hP hD hS => ?_)
  refine lv_aload_n hx hb d_X9_laysFrom_32 rfl (lv_at hl 2 rfl) ?_
  refine r_get (v := .ref k27) C hP 0 rfl rfl lay_X9 27 (by decide) k_1572 rfl d_X9_laysFrom_33 ?_
  refine lv_iload_n hx hb d_X9_laysFrom_36 rfl (lv_at hl 1 rfl) ?_
  refine lv_iload hx hb d_X9_laysFrom_37 (lv_at hl 0 rfl) ?_
  refine r_iast (w := [(h0, eO 9 [.ref k0, .ref k1, .ref k2, .ref k3, u4, .ref k5, u6, u7, u8, u9, u10, u11, u12, u13, u14, u15, u16, u17, u18, .ref k19, .ref k20, .ref k21, .ref k22, .ref k23, u24, .ref k25, .ref k26, .ref k27, u28, u29, .ref k30, .ref k31, u32, .ref k33, u34, u35, .ref k36, .ref k37, .ref k38, .ref k39]), (k25, eI (ty 0) 9000 (upd en (9 * b) (-3))), (k26, eI (ty 0) 9000 st), (k27, eI (ty 0) 9001 (upd wy 0 (nI (9 * b)))), (k21, eI (ty 0) 1000 (fun _ => 0))]) C hP hD hS 3 rfl 0 rfl (by decide) (by decide) rfl d_X9_laysFrom_39 (fun H locs hP hD hS => ?_)
  refine lv_iinc (v := 1) (lv' := [(3, .int 1), (4, .int (nI (9 * b))), (0, .ref h0), (1, .int (nI (9 * b))), (2, .int so)]) (k := 1) hx hb d_X9_laysFrom_40 hl rfl (by decide) (by decide) rfl (fun ls hl => ?_)
  refine lv_aload_n hx hb d_X9_laysFrom_43 rfl (lv_at hl 2 rfl) ?_
  refine lv_iload hx hb d_X9_laysFrom_44 (lv_at hl 1 rfl) ?_
  refine lv_iload_n hx hb d_X9_laysFrom_46 rfl (lv_at hl 4 rfl) ?_
  have ct_1 : Cut [(h0, eO 9 [.ref k0, .ref k1, .ref k2, .ref k3, u4, .ref k5, u6, u7, u8, u9, u10, u11, u12, u13, u14, u15, u16, u17, u18, .ref k19, .ref k20, .ref k21, .ref k22, .ref k23, u24, .ref k25, .ref k26, .ref k27, u28, u29, .ref k30, .ref k31, u32, .ref k33, u34, u35, .ref k36, .ref k37, .ref k38, .ref k39]), (k25, eI (ty 0) 9000 (upd en (9 * b) (-3))), (k26, eI (ty 0) 9000 st), (k27, eI (ty 0) 9001 (upd wy 0 (nI (9 * b)))), (k21, eI (ty 0) 1000 (fun _ => 0))] [(h0, eO 9 [.ref k0, .ref k1, .ref k2, .ref k3, u4, .ref k5, u6, u7, u8, u9, u10, u11, u12, u13, u14, u15, u16, u17, u18, .ref k19, .ref k20, .ref k21, .ref k22, .ref k23, u24, .ref k25, .ref k26, .ref k27, u28, u29, .ref k30, .ref k31, u32, .ref k33, u34, u35, .ref k36, .ref k37, .ref k38, .ref k39]), (k21, eI (ty 0) 1000 (fun _ => 0))] [(k25, eI (ty 0) 9000 (upd en (9 * b) (-3))), (k26, eI (ty 0) 9000 st), (k27, eI (ty 0) 9001 (upd wy 0 (nI (9 * b))))] [0, 4] [1, 2, 3] := ⟨rfl, rfl, rfl, rfl, by decide⟩
  refine cont_I C hP hD hS ct_1 (run_V (As := [.int (nI (9 * b)), .int so]) (rest := []) C hP hD hS ct_1 (c_monw l D ty h0 k0 k1 k2 k3 k5 k19 k20 k21 k22 k23 k25 k26 k27 k30 k31 k33 k36 k37 k38 k39 u4 u6 u7 u8 u9 u10 u11 u12 u13 u14 u15 u16 u17 u18 u24 u28 u29 u32 u34 u35 b so hbd) kV_PinchedBillModel_394 0 rfl rfl rfl rfl hl.1 rfl (nle rfl) d_X9_laysFrom_47 ⟨by decide, by decide, by decide, by decide⟩) (fun r_3 w_4 H locs hw_2 hP hD hS => ?_)
  obtain ⟨rfl, rfl⟩ := hw_2
  have hP : va_P D vwCl [(k25, eI (ty 0) 9000 (upd en (9 * b) (-3))), (k26, eI (ty 0) 9000 st), (k27, eI (ty 0) 9001 (upd wy 0 (nI (9 * b)))), (h0, eO 9 [.ref k0, .ref k1, .ref k2, .ref k3, u4, .ref k5, u6, u7, u8, u9, u10, u11, u12, u13, u14, u15, u16, u17, u18, .ref k19, .ref k20, .ref k21, .ref k22, .ref k23, u24, .ref k25, .ref k26, .ref k27, u28, u29, .ref k30, .ref k31, u32, .ref k33, u34, u35, .ref k36, .ref k37, .ref k38, .ref k39]), (k21, eI (ty 0) 1000 (fun _ => 0))] H := hP
  have hD : va_D A [(k25, eI (ty 0) 9000 (upd en (9 * b) (-3))), (k26, eI (ty 0) 9000 st), (k27, eI (ty 0) 9001 (upd wy 0 (nI (9 * b)))), (h0, eO 9 [.ref k0, .ref k1, .ref k2, .ref k3, u4, .ref k5, u6, u7, u8, u9, u10, u11, u12, u13, u14, u15, u16, u17, u18, .ref k19, .ref k20, .ref k21, .ref k22, .ref k23, u24, .ref k25, .ref k26, .ref k27, u28, u29, .ref k30, .ref k31, u32, .ref k33, u34, u35, .ref k36, .ref k37, .ref k38, .ref k39]), (k21, eI (ty 0) 1000 (fun _ => 0))] := hD
  refine lv_istore (lv' := [(4, .int (-1)), (3, .int 1), (0, .ref h0), (1, .int (nI (9 * b))), (2, .int so)]) hx hb d_X9_laysFrom_50 hl (by decide) rfl (fun ls hl => ?_)
  refine lv_goto (tgt := 5) hx hb d_X9_laysFrom_52 (by decide) ?_
  refine lv_iload hx hb d_X9_laysFrom_5 (lv_at hl 0 rfl) ?_
  refine lv_iconst (v := (-1)) hx hb d_X9_laysFrom_7 (by decide) ?_
  refine b_icmp_eqT C 55 d_X9_laysFrom_8 (by decide) (by decide) ?_
  refine lv_iload hx hb d_X9_laysFrom_55 (lv_at hl 0 rfl) ?_
  refine lv_iconst (v := (-1)) hx hb d_X9_laysFrom_57 (by decide) ?_
  refine b_icmp_neF C 65 d_X9_laysFrom_58 (by decide) (by decide) ?_
  refine lv_iconst (v := 1) hx hb d_X9_laysFrom_61 (by decide) ?_
  refine lv_goto (tgt := 66) hx hb d_X9_laysFrom_62 (by decide) ?_
  refine lv_istore (lv' := [(5, .int 1), (4, .int (-1)), (3, .int 1), (0, .ref h0), (1, .int (nI (9 * b))), (2, .int so)]) hx hb d_X9_laysFrom_66 hl (by decide) rfl (fun ls hl => ?_)
  refine lv_iload hx hb d_X9_laysFrom_68 (lv_at hl 0 rfl) ?_
  refine b_if_eqF C 87 d_X9_laysFrom_70 (by decide) (by decide) ?_
  refine lv_aload_n hx hb d_X9_laysFrom_73 rfl (lv_at hl 3 rfl) ?_
  refine r_get (v := .ref k27) C hP 3 rfl rfl lay_X9 27 (by decide) k_1572 rfl d_X9_laysFrom_74 ?_
  refine lv_iload_n hx hb d_X9_laysFrom_77 rfl (lv_at hl 2 rfl) ?_
  refine lv_iconst (v := 1) hx hb d_X9_laysFrom_78 (by decide) ?_
  refine r_isub (z := 0) C d_X9_laysFrom_79 (by decide) ?_
  refine r_iald (v := (nI (9 * b))) C hP 2 rfl 0 rfl (by decide) (by decide) rfl d_X9_laysFrom_80 ?_
  refine lv_bipush (v := 9) hx hb d_X9_laysFrom_81 (by decide) ?_
  refine r_idiv (z := (nI ((9 * b) / 9))) C d_X9_laysFrom_83 (by decide) (a_div (9 * b) 9 ((9 * b) / 9) rfl rfl (by omega) (by omega) (by omega) rfl) ?_
  refine lv_goto (tgt := 110) hx hb d_X9_laysFrom_84 (by decide) ?_
  refine lv_istore (lv' := [(6, .int (nI ((9 * b) / 9))), (5, .int 1), (4, .int (-1)), (3, .int 1), (0, .ref h0), (1, .int (nI (9 * b))), (2, .int so)]) hx hb d_X9_laysFrom_110 hl (by decide) rfl (fun ls hl => ?_)
  refine lv_iload hx hb d_X9_laysFrom_112 (lv_at hl 1 rfl) ?_
  refine b_if_eqF C 121 d_X9_laysFrom_114 (by decide) (by decide) ?_
  refine lv_iconst (v := (-1)) hx hb d_X9_laysFrom_117 (by decide) ?_
  refine lv_goto (tgt := 138) hx hb d_X9_laysFrom_118 (by decide) ?_
  refine lv_istore (lv' := [(7, .int (-1)), (6, .int (nI ((9 * b) / 9))), (5, .int 1), (4, .int (-1)), (3, .int 1), (0, .ref h0), (1, .int (nI (9 * b))), (2, .int so)]) hx hb d_X9_laysFrom_138 hl (by decide) rfl (fun ls hl => ?_)
  refine lv_iload_n hx hb d_X9_laysFrom_140 rfl (lv_at hl 4 rfl) ?_
  refine lv_iconst (v := 1) hx hb d_X9_laysFrom_141 (by decide) ?_
  refine r_isub (z := 0) C d_X9_laysFrom_142 (by decide) ?_
  refine lv_istore (lv' := [(8, .int 0), (7, .int (-1)), (6, .int (nI ((9 * b) / 9))), (5, .int 1), (4, .int (-1)), (3, .int 1), (0, .ref h0), (1, .int (nI (9 * b))), (2, .int so)]) hx hb d_X9_laysFrom_143 hl (by decide) rfl (fun ls hl => ?_)
  refine lv_iload hx hb d_X9_laysFrom_145 (lv_at hl 0 rfl) ?_
  refine b_if_ltF C 187 d_X9_laysFrom_147 (by decide) (by decide) ?_
  refine lv_iinc (v := 0) (lv' := [(7, .int 0), (8, .int 0), (6, .int (nI ((9 * b) / 9))), (5, .int 1), (4, .int (-1)), (3, .int 1), (0, .ref h0), (1, .int (nI (9 * b))), (2, .int so)]) (k := 1) hx hb d_X9_laysFrom_150 hl rfl (by decide) (by decide) rfl (fun ls hl => ?_)
  refine lv_aload_n hx hb d_X9_laysFrom_153 rfl (lv_at hl 6 rfl) ?_
  refine r_get (v := .ref k25) C hP 3 rfl rfl lay_X9 25 (by decide) k_1570 rfl d_X9_laysFrom_154 ?_
  refine lv_aload_n hx hb d_X9_laysFrom_157 rfl (lv_at hl 6 rfl) ?_
  refine r_get (v := .ref k27) C hP 3 rfl rfl lay_X9 27 (by decide) k_1572 rfl d_X9_laysFrom_158 ?_
  refine lv_iload hx hb d_X9_laysFrom_161 (lv_at hl 1 rfl) ?_
  refine r_iald (v := (nI (9 * b))) C hP 2 rfl 0 rfl (by decide) (by decide) rfl d_X9_laysFrom_163 ?_
  refine lv_iload hx hb d_X9_laysFrom_164 (lv_at hl 2 rfl) ?_
  refine r_iast (w := [(k25, eI (ty 0) 9000 (upd (upd en (9 * b) (-3)) (9 * b) (nI ((9 * b) / 9)))), (k26, eI (ty 0) 9000 st), (k27, eI (ty 0) 9001 (upd wy 0 (nI (9 * b)))), (h0, eO 9 [.ref k0, .ref k1, .ref k2, .ref k3, u4, .ref k5, u6, u7, u8, u9, u10, u11, u12, u13, u14, u15, u16, u17, u18, .ref k19, .ref k20, .ref k21, .ref k22, .ref k23, u24, .ref k25, .ref k26, .ref k27, u28, u29, .ref k30, .ref k31, u32, .ref k33, u34, u35, .ref k36, .ref k37, .ref k38, .ref k39]), (k21, eI (ty 0) 1000 (fun _ => 0))]) C hP hD hS 0 rfl (9 * b) rfl (by omega) (by decide) rfl d_X9_laysFrom_166 (fun H locs hP hD hS => ?_)
  refine lv_aload_n hx hb d_X9_laysFrom_167 rfl (lv_at hl 6 rfl) ?_
  refine r_get (v := .ref k26) C hP 3 rfl rfl lay_X9 26 (by decide) k_1571 rfl d_X9_laysFrom_168 ?_
  refine lv_aload_n hx hb d_X9_laysFrom_171 rfl (lv_at hl 6 rfl) ?_
  refine r_get (v := .ref k27) C hP 3 rfl rfl lay_X9 27 (by decide) k_1572 rfl d_X9_laysFrom_172 ?_
  refine lv_iload hx hb d_X9_laysFrom_175 (lv_at hl 1 rfl) ?_
  refine r_iald (v := (nI (9 * b))) C hP 2 rfl 0 rfl (by decide) (by decide) rfl d_X9_laysFrom_177 ?_
  refine lv_iload hx hb d_X9_laysFrom_178 (lv_at hl 0 rfl) ?_
  refine r_iast (w := [(k25, eI (ty 0) 9000 (upd (upd en (9 * b) (-3)) (9 * b) (nI ((9 * b) / 9)))), (k26, eI (ty 0) 9000 (upd st (9 * b) 0)), (k27, eI (ty 0) 9001 (upd wy 0 (nI (9 * b)))), (h0, eO 9 [.ref k0, .ref k1, .ref k2, .ref k3, u4, .ref k5, u6, u7, u8, u9, u10, u11, u12, u13, u14, u15, u16, u17, u18, .ref k19, .ref k20, .ref k21, .ref k22, .ref k23, u24, .ref k25, .ref k26, .ref k27, u28, u29, .ref k30, .ref k31, u32, .ref k33, u34, u35, .ref k36, .ref k37, .ref k38, .ref k39]), (k21, eI (ty 0) 1000 (fun _ => 0))]) C hP hD hS 1 rfl (9 * b) rfl (by omega) (by decide) rfl d_X9_laysFrom_180 (fun H locs hP hD hS => ?_)
  refine lv_iinc (v := (-1)) (lv' := [(8, .int (-1)), (7, .int 0), (6, .int (nI ((9 * b) / 9))), (5, .int 1), (4, .int (-1)), (3, .int 1), (0, .ref h0), (1, .int (nI (9 * b))), (2, .int so)]) (k := 1) hx hb d_X9_laysFrom_181 hl rfl (by decide) (by decide) rfl (fun ls hl => ?_)
  refine lv_goto (tgt := 145) hx hb d_X9_laysFrom_184 (by decide) ?_
  refine lv_iload hx hb d_X9_laysFrom_145 (lv_at hl 0 rfl) ?_
  refine b_if_ltT C 187 d_X9_laysFrom_147 (by decide) (by decide) ?_
  exact ret_V (w := [(h0, eO 9 [.ref k0, .ref k1, .ref k2, .ref k3, u4, .ref k5, u6, u7, u8, u9, u10, u11, u12, u13, u14, u15, u16, u17, u18, .ref k19, .ref k20, .ref k21, .ref k22, .ref k23, u24, .ref k25, .ref k26, .ref k27, u28, u29, .ref k30, .ref k31, u32, .ref k33, u34, u35, .ref k36, .ref k37, .ref k38, .ref k39]), (k25, eI (ty 0) 9000 (upd (upd en (9 * b) (-3)) (9 * b) (nI ((9 * b) / 9)))), (k26, eI (ty 0) 9000 (upd st (9 * b) 0)), (k27, eI (ty 0) 9001 (upd wy 0 (nI (9 * b)))), (k21, eI (ty 0) 1000 (fun _ => 0))]) C hP hD hS [3, 0, 1, 2, 4] rfl rfl ⟨(upd (upd en (9 * b) (-3)) (9 * b) (nI ((9 * b) / 9))), (upd st (9 * b) 0), (upd wy 0 (nI (9 * b))), (by rw [pk_us]; congr 1; omega), (fun j h => by rw [pk_un h, pk_un h]), pk_us, (fun j h => pk_un h), rfl⟩ (by decide) (by decide) d_X9_laysFrom_187

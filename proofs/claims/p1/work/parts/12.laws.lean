theorem d_X0_unit_0 : decode prog_2_method_4_code 0 = .ok (.aload_n 0, 1) := by decide +kernel
theorem d_X0_unit_1 : decode prog_2_method_4_code 1 = .ok (.getfield 21, 3) := by decide +kernel
theorem d_X0_unit_4 : decode prog_2_method_4_code 4 = .ok (.iconst 1, 1) := by decide +kernel
theorem d_X0_unit_5 : decode prog_2_method_4_code 5 = .ok (.if_icmp .ne 6, 3) := by decide +kernel
theorem d_X0_unit_8 : decode prog_2_method_4_code 8 = .ok (.bipush 100, 2) := by decide +kernel
theorem d_X0_unit_10 : decode prog_2_method_4_code 10 = .ok (.ireturn, 1) := by decide +kernel
theorem d_X0_bills_0 : decode prog_2_method_5_code 0 = .ok (.aload_n 0, 1) := by decide +kernel
theorem d_X0_bills_1 : decode prog_2_method_5_code 1 = .ok (.getfield 21, 3) := by decide +kernel
theorem d_X0_bills_4 : decode prog_2_method_5_code 4 = .ok (.iconst 1, 1) := by decide +kernel
theorem d_X0_bills_5 : decode prog_2_method_5_code 5 = .ok (.if_icmp .ne 6, 3) := by decide +kernel
theorem d_X0_bills_8 : decode prog_2_method_5_code 8 = .ok (.bipush 10, 2) := by decide +kernel
theorem d_X0_bills_10 : decode prog_2_method_5_code 10 = .ok (.ireturn, 1) := by decide +kernel
theorem d_X0_billAt_0 : decode prog_2_method_6_code 0 = .ok (.iload_n 1, 1) := by decide +kernel
theorem d_X0_billAt_1 : decode prog_2_method_6_code 1 = .ok (.aload_n 0, 1) := by decide +kernel
theorem k_571 : Cond.code ⟨"PinchedBill$House", "unit", "()I"⟩ prog_2_method_4_code 1 (some .int) ∈ gd_tbl := gd_in 571 (by decide +kernel) (by decide +kernel)
theorem k_605 : Cond.methodLink "PinchedBill$House" 64 ⟨"PinchedBill$House", "unit", "()I"⟩ ∈ gd_tbl := gd_in 605 (by decide +kernel) (by decide +kernel)
theorem k_569 : Cond.instanceMethod ⟨"PinchedBill$House", "unit", "()I"⟩ ∈ gd_tbl := gd_in 569 (by decide +kernel) (by decide +kernel)
theorem k_570 : Cond.selects "PinchedBill$House" ⟨"PinchedBill$House", "unit", "()I"⟩ ⟨"PinchedBill$House", "unit", "()I"⟩ ∈ gd_tbl := gd_in 570 (by decide +kernel) (by decide +kernel)
theorem kV_PinchedBill_House_64 : kV "PinchedBill$House" 64 ⟨"PinchedBill$House", "unit", "()I"⟩ prog_2_method_4_code 1 (some .int) 0 := ⟨k_605, k_569, k_570, k_119, k_571, by decide, by decide, by decide +kernel⟩
theorem d_X0_billAt_2 : decode prog_2_method_6_code 2 = .ok (.invokevirtual 64, 3) := by decide +kernel
theorem d_X0_billAt_5 : decode prog_2_method_6_code 5 = .ok (.imul, 1) := by decide +kernel
theorem d_X0_billAt_6 : decode prog_2_method_6_code 6 = .ok (.ireturn, 1) := by decide +kernel
theorem d_X0_isBill_0 : decode prog_2_method_7_code 0 = .ok (.iload_n 1, 1) := by decide +kernel
theorem d_X0_isBill_1 : decode prog_2_method_7_code 1 = .ok (.ifCond .lt 10, 3) := by decide +kernel
theorem d_X0_isBill_11 : decode prog_2_method_7_code 11 = .ok (.iconst 0, 1) := by decide +kernel
theorem d_X0_isBill_12 : decode prog_2_method_7_code 12 = .ok (.ireturn, 1) := by decide +kernel
theorem d_X0_isBill_4 : decode prog_2_method_7_code 4 = .ok (.iload_n 1, 1) := by decide +kernel
theorem d_X0_isBill_5 : decode prog_2_method_7_code 5 = .ok (.sipush 1000, 3) := by decide +kernel
theorem d_X0_isBill_8 : decode prog_2_method_7_code 8 = .ok (.if_icmp .lt 5, 3) := by decide +kernel
theorem d_X0_isBill_13 : decode prog_2_method_7_code 13 = .ok (.aload_n 0, 1) := by decide +kernel
theorem d_X0_isBill_14 : decode prog_2_method_7_code 14 = .ok (.getfield 21, 3) := by decide +kernel
theorem d_X0_isBill_17 : decode prog_2_method_7_code 17 = .ok (.iconst 1, 1) := by decide +kernel
theorem d_X0_isBill_18 : decode prog_2_method_7_code 18 = .ok (.if_icmp .ne 16, 3) := by decide +kernel
theorem d_X0_isBill_21 : decode prog_2_method_7_code 21 = .ok (.iload_n 1, 1) := by decide +kernel
theorem d_X0_isBill_22 : decode prog_2_method_7_code 22 = .ok (.bipush 100, 2) := by decide +kernel
theorem d_X0_isBill_24 : decode prog_2_method_7_code 24 = .ok (.irem, 1) := by decide +kernel
theorem d_X0_isBill_25 : decode prog_2_method_7_code 25 = .ok (.ifCond .ne 7, 3) := by decide +kernel
theorem d_X0_isBill_32 : decode prog_2_method_7_code 32 = .ok (.iconst 0, 1) := by decide +kernel
theorem d_X0_isBill_33 : decode prog_2_method_7_code 33 = .ok (.ireturn, 1) := by decide +kernel
theorem d_X0_isBill_28 : decode prog_2_method_7_code 28 = .ok (.iconst 1, 1) := by decide +kernel
theorem d_X0_isBill_29 : decode prog_2_method_7_code 29 = .ok (.goto 4, 3) := by decide +kernel
theorem d_X0_wholeChance_0 : decode prog_2_method_16_code 0 = .ok (.lconst 1, 1) := by decide +kernel
theorem d_X0_wholeChance_1 : decode prog_2_method_16_code 1 = .ok (.lstore_n 1, 1) := by decide +kernel
theorem d_X0_wholeChance_2 : decode prog_2_method_16_code 2 = .ok (.iconst 0, 1) := by decide +kernel
theorem d_X0_wholeChance_3 : decode prog_2_method_16_code 3 = .ok (.istore_n 3, 1) := by decide +kernel
theorem d_X0_wholeChance_4 : decode prog_2_method_16_code 4 = .ok (.iload_n 3, 1) := by decide +kernel
theorem d_X0_wholeChance_5 : decode prog_2_method_16_code 5 = .ok (.aload_n 0, 1) := by decide +kernel
theorem k_170 : Cond.fieldLink "PinchedBill$House" 28 "PinchedBill$House" "people" "I" ∈ gd_tbl := gd_in 170 (by decide +kernel) (by decide +kernel)
theorem d_X0_wholeChance_6 : decode prog_2_method_16_code 6 = .ok (.getfield 28, 3) := by decide +kernel
theorem d_X0_wholeChance_9 : decode prog_2_method_16_code 9 = .ok (.if_icmp .ge 15, 3) := by decide +kernel
theorem d_X0_wholeChance_24 : decode prog_2_method_16_code 24 = .ok (.lload_n 1, 1) := by decide +kernel
theorem d_X0_wholeChance_25 : decode prog_2_method_16_code 25 = .ok (.lreturn, 1) := by decide +kernel
theorem d_X8_figureOf_0 : decode prog_1_method_67_code 0 = .ok (.iload_n 1, 1) := by decide +kernel
theorem d_X8_figureOf_1 : decode prog_1_method_67_code 1 = .ok (.ifCond .ne 8, 3) := by decide +kernel
theorem d_X8_figureOf_4 : decode prog_1_method_67_code 4 = .ok (.iload_n 0, 1) := by decide +kernel
theorem d_X8_figureOf_5 : decode prog_1_method_67_code 5 = .ok (.bipush 100, 2) := by decide +kernel
theorem d_X8_figureOf_7 : decode prog_1_method_67_code 7 = .ok (.idiv, 1) := by decide +kernel
theorem d_X8_figureOf_8 : decode prog_1_method_67_code 8 = .ok (.ireturn, 1) := by decide +kernel
theorem d_X8_figureOf_9 : decode prog_1_method_67_code 9 = .ok (.iload_n 1, 1) := by decide +kernel
theorem d_X8_figureOf_10 : decode prog_1_method_67_code 10 = .ok (.iconst 1, 1) := by decide +kernel
theorem d_X8_figureOf_11 : decode prog_1_method_67_code 11 = .ok (.if_icmp .ne 13, 3) := by decide +kernel
theorem d_X8_figureOf_14 : decode prog_1_method_67_code 14 = .ok (.iload_n 0, 1) := by decide +kernel
theorem d_X8_figureOf_15 : decode prog_1_method_67_code 15 = .ok (.bipush 10, 2) := by decide +kernel
theorem d_X8_figureOf_17 : decode prog_1_method_67_code 17 = .ok (.idiv, 1) := by decide +kernel
theorem d_X8_figureOf_18 : decode prog_1_method_67_code 18 = .ok (.bipush 10, 2) := by decide +kernel
theorem d_X8_figureOf_20 : decode prog_1_method_67_code 20 = .ok (.irem, 1) := by decide +kernel
theorem d_X8_figureOf_21 : decode prog_1_method_67_code 21 = .ok (.goto 7, 3) := by decide +kernel
theorem d_X8_figureOf_28 : decode prog_1_method_67_code 28 = .ok (.ireturn, 1) := by decide +kernel
theorem d_X8_figureOf_24 : decode prog_1_method_67_code 24 = .ok (.iload_n 0, 1) := by decide +kernel
theorem d_X8_figureOf_25 : decode prog_1_method_67_code 25 = .ok (.bipush 10, 2) := by decide +kernel
theorem d_X8_figureOf_27 : decode prog_1_method_67_code 27 = .ok (.irem, 1) := by decide +kernel
theorem d_X2_setFigures_0 : decode prog_4_method_6_code 0 = .ok (.iconst 0, 1) := by decide +kernel
theorem d_X2_setFigures_1 : decode prog_4_method_6_code 1 = .ok (.istore_n 2, 1) := by decide +kernel
theorem d_X2_setFigures_2 : decode prog_4_method_6_code 2 = .ok (.iload_n 2, 1) := by decide +kernel
theorem d_X2_setFigures_3 : decode prog_4_method_6_code 3 = .ok (.iconst 3, 1) := by decide +kernel
theorem d_X2_setFigures_4 : decode prog_4_method_6_code 4 = .ok (.if_icmp .ge 20, 3) := by decide +kernel
theorem d_X2_setFigures_7 : decode prog_4_method_6_code 7 = .ok (.aload_n 0, 1) := by decide +kernel
theorem d_X2_setFigures_8 : decode prog_4_method_6_code 8 = .ok (.getfield 18, 3) := by decide +kernel
theorem d_X2_setFigures_11 : decode prog_4_method_6_code 11 = .ok (.iload_n 2, 1) := by decide +kernel
theorem d_X2_setFigures_12 : decode prog_4_method_6_code 12 = .ok (.iload_n 1, 1) := by decide +kernel
theorem d_X2_setFigures_13 : decode prog_4_method_6_code 13 = .ok (.iload_n 2, 1) := by decide +kernel
theorem k_475 : Cond.code ⟨"PinchedBill", "figureOf", "(II)I"⟩ prog_1_method_67_code 2 (some .int) ∈ gd_tbl := gd_in 475 (by decide +kernel) (by decide +kernel)
theorem k_474 : Cond.static ⟨"PinchedBill", "figureOf", "(II)I"⟩ ∈ gd_tbl := gd_in 474 (by decide +kernel) (by decide +kernel)
theorem k_117 : Cond.initialized "PinchedBill" ∈ gd_tbl := gd_in 117 (by decide +kernel) (by decide +kernel)
theorem kSN_PinchedBill_Laws_64 : kSN "PinchedBill$Laws" 64 "PinchedBill" ⟨"PinchedBill", "figureOf", "(II)I"⟩ prog_1_method_67_code 2 (some .int) 2 := ⟨by decide +kernel, k_474, k_117, k_475, by decide, by decide, by decide +kernel⟩
theorem d_X2_setFigures_14 : decode prog_4_method_6_code 14 = .ok (.invokestatic 64, 3) := by decide +kernel
theorem d_X2_setFigures_17 : decode prog_4_method_6_code 17 = .ok (.iastore, 1) := by decide +kernel
theorem d_X2_setFigures_18 : decode prog_4_method_6_code 18 = .ok (.iinc 2 1, 3) := by decide +kernel
theorem d_X2_setFigures_21 : decode prog_4_method_6_code 21 = .ok (.goto (-19), 3) := by decide +kernel
theorem d_X2_setFigures_24 : decode prog_4_method_6_code 24 = .ok (.return_, 1) := by decide +kernel
theorem d_X2_pinchedBy_0 : decode prog_4_method_3_code 0 = .ok (.iload_n 1, 1) := by decide +kernel
theorem d_X2_pinchedBy_1 : decode prog_4_method_3_code 1 = .ok (.ifCond .lt 10, 3) := by decide +kernel
theorem d_X2_pinchedBy_4 : decode prog_4_method_3_code 4 = .ok (.iload_n 1, 1) := by decide +kernel
theorem d_X2_pinchedBy_5 : decode prog_4_method_3_code 5 = .ok (.sipush 1000, 3) := by decide +kernel
theorem d_X2_pinchedBy_8 : decode prog_4_method_3_code 8 = .ok (.if_icmp .lt 5, 3) := by decide +kernel
theorem d_X2_pinchedBy_13 : decode prog_4_method_3_code 13 = .ok (.aload_n 0, 1) := by decide +kernel
theorem d_X2_pinchedBy_14 : decode prog_4_method_3_code 14 = .ok (.getfield 9, 3) := by decide +kernel
theorem d_X2_pinchedBy_17 : decode prog_4_method_3_code 17 = .ok (.iload_n 1, 1) := by decide +kernel
theorem d_X2_pinchedBy_18 : decode prog_4_method_3_code 18 = .ok (.iaload, 1) := by decide +kernel
theorem d_X2_pinchedBy_19 : decode prog_4_method_3_code 19 = .ok (.ifCond .eq 12, 3) := by decide +kernel
theorem d_X2_pinchedBy_31 : decode prog_4_method_3_code 31 = .ok (.iconst 0, 1) := by decide +kernel
theorem d_X2_pinchedBy_32 : decode prog_4_method_3_code 32 = .ok (.istore_n 2, 1) := by decide +kernel
theorem d_X2_pinchedBy_33 : decode prog_4_method_3_code 33 = .ok (.aload_n 0, 1) := by decide +kernel
theorem d_X2_pinchedBy_34 : decode prog_4_method_3_code 34 = .ok (.iload_n 1, 1) := by decide +kernel
theorem k_472 : Cond.code ⟨"PinchedBill$Laws", "setFigures", "(I)V"⟩ prog_4_method_6_code 3 none ∈ gd_tbl := gd_in 472 (by decide +kernel) (by decide +kernel)
theorem k_469 : Cond.methodLink "PinchedBill$Laws" 34 ⟨"PinchedBill$Laws", "setFigures", "(I)V"⟩ ∈ gd_tbl := gd_in 469 (by decide +kernel) (by decide +kernel)
theorem k_471 : Cond.instanceMethod ⟨"PinchedBill$Laws", "setFigures", "(I)V"⟩ ∈ gd_tbl := gd_in 471 (by decide +kernel) (by decide +kernel)
theorem k_2 : Cond.selects "PinchedBill$Laws" ⟨"PinchedBill$Laws", "setFigures", "(I)V"⟩ ⟨"PinchedBill$Laws", "setFigures", "(I)V"⟩ ∈ gd_tbl := gd_in 2 (by decide +kernel) (by decide +kernel)
theorem kV_PinchedBill_Laws_34 : kV "PinchedBill$Laws" 34 ⟨"PinchedBill$Laws", "setFigures", "(I)V"⟩ prog_4_method_6_code 3 none 1 := ⟨k_469, k_471, k_2, k_137, k_472, by decide, by decide, by decide +kernel⟩
theorem d_X2_pinchedBy_35 : decode prog_4_method_3_code 35 = .ok (.invokevirtual 34, 3) := by decide +kernel
theorem d_X2_pinchedBy_38 : decode prog_4_method_3_code 38 = .ok (.iconst 0, 1) := by decide +kernel
theorem d_X2_pinchedBy_39 : decode prog_4_method_3_code 39 = .ok (.istore_n 3, 1) := by decide +kernel
theorem d_X2_pinchedBy_40 : decode prog_4_method_3_code 40 = .ok (.iload_n 3, 1) := by decide +kernel
theorem d_X2_pinchedBy_41 : decode prog_4_method_3_code 41 = .ok (.aload_n 0, 1) := by decide +kernel
theorem d_X2_pinchedBy_42 : decode prog_4_method_3_code 42 = .ok (.getfield 24, 3) := by decide +kernel
theorem k_171 : Cond.fieldLink "PinchedBill$Laws" 38 "PinchedBill$House" "people" "I" ∈ gd_tbl := gd_in 171 (by decide +kernel) (by decide +kernel)
theorem d_X2_pinchedBy_45 : decode prog_4_method_3_code 45 = .ok (.getfield 38, 3) := by decide +kernel
theorem d_X2_pinchedBy_48 : decode prog_4_method_3_code 48 = .ok (.if_icmp .ge 85, 3) := by decide +kernel
theorem d_X2_pinchedBy_133 : decode prog_4_method_3_code 133 = .ok (.aload_n 0, 1) := by decide +kernel
theorem d_X2_pinchedBy_134 : decode prog_4_method_3_code 134 = .ok (.getfield 9, 3) := by decide +kernel
theorem d_X2_pinchedBy_137 : decode prog_4_method_3_code 137 = .ok (.iload_n 1, 1) := by decide +kernel
theorem d_X2_pinchedBy_138 : decode prog_4_method_3_code 138 = .ok (.iload_n 2, 1) := by decide +kernel
theorem d_X2_pinchedBy_139 : decode prog_4_method_3_code 139 = .ok (.iconst 1, 1) := by decide +kernel
theorem d_X2_pinchedBy_140 : decode prog_4_method_3_code 140 = .ok (.iadd, 1) := by decide +kernel
theorem d_X2_pinchedBy_141 : decode prog_4_method_3_code 141 = .ok (.iastore, 1) := by decide +kernel
theorem d_X2_pinchedBy_142 : decode prog_4_method_3_code 142 = .ok (.iload_n 2, 1) := by decide +kernel
theorem d_X2_pinchedBy_143 : decode prog_4_method_3_code 143 = .ok (.ireturn, 1) := by decide +kernel
theorem d_X2_pinchedBy_22 : decode prog_4_method_3_code 22 = .ok (.aload_n 0, 1) := by decide +kernel
theorem d_X2_pinchedBy_23 : decode prog_4_method_3_code 23 = .ok (.getfield 9, 3) := by decide +kernel
theorem d_X2_pinchedBy_26 : decode prog_4_method_3_code 26 = .ok (.iload_n 1, 1) := by decide +kernel
theorem d_X2_pinchedBy_27 : decode prog_4_method_3_code 27 = .ok (.iaload, 1) := by decide +kernel
theorem d_X2_pinchedBy_28 : decode prog_4_method_3_code 28 = .ok (.iconst 1, 1) := by decide +kernel
theorem d_X2_pinchedBy_29 : decode prog_4_method_3_code 29 = .ok (.isub, 1) := by decide +kernel
theorem d_X2_pinchedBy_30 : decode prog_4_method_3_code 30 = .ok (.ireturn, 1) := by decide +kernel
theorem d_X2_speaker_0 : decode prog_4_method_10_code 0 = .ok (.iload_n 0, 1) := by decide +kernel
theorem d_X2_speaker_1 : decode prog_4_method_10_code 1 = .ok (.ifCond .ne 5, 3) := by decide +kernel
theorem d_X2_speaker_4 : decode prog_4_method_10_code 4 = .ok (.iconst (-1), 1) := by decide +kernel
theorem d_X2_speaker_5 : decode prog_4_method_10_code 5 = .ok (.ireturn, 1) := by decide +kernel
theorem d_X2_isLaw_0 : decode prog_4_method_11_code 0 = .ok (.aload_n 0, 1) := by decide +kernel
theorem d_X2_isLaw_1 : decode prog_4_method_11_code 1 = .ok (.iload_n 1, 1) := by decide +kernel
theorem k_468 : Cond.code ⟨"PinchedBill$Laws", "pinchedBy", "(I)I"⟩ prog_4_method_3_code 5 (some .int) ∈ gd_tbl := gd_in 468 (by decide +kernel) (by decide +kernel)
theorem k_549 : Cond.methodLink "PinchedBill$Laws" 116 ⟨"PinchedBill$Laws", "pinchedBy", "(I)I"⟩ ∈ gd_tbl := gd_in 549 (by decide +kernel) (by decide +kernel)
theorem k_466 : Cond.instanceMethod ⟨"PinchedBill$Laws", "pinchedBy", "(I)I"⟩ ∈ gd_tbl := gd_in 466 (by decide +kernel) (by decide +kernel)
theorem k_467 : Cond.selects "PinchedBill$Laws" ⟨"PinchedBill$Laws", "pinchedBy", "(I)I"⟩ ⟨"PinchedBill$Laws", "pinchedBy", "(I)I"⟩ ∈ gd_tbl := gd_in 467 (by decide +kernel) (by decide +kernel)
theorem kV_PinchedBill_Laws_116 : kV "PinchedBill$Laws" 116 ⟨"PinchedBill$Laws", "pinchedBy", "(I)I"⟩ prog_4_method_3_code 5 (some .int) 1 := ⟨k_549, k_466, k_467, k_137, k_468, by decide, by decide, by decide +kernel⟩
theorem d_X2_isLaw_2 : decode prog_4_method_11_code 2 = .ok (.invokevirtual 116, 3) := by decide +kernel
theorem d_X2_isLaw_5 : decode prog_4_method_11_code 5 = .ok (.iload_n 2, 1) := by decide +kernel
theorem d_X2_isLaw_6 : decode prog_4_method_11_code 6 = .ok (.iand, 1) := by decide +kernel
theorem d_X2_isLaw_7 : decode prog_4_method_11_code 7 = .ok (.ifCond .ne 7, 3) := by decide +kernel
theorem d_X2_isLaw_10 : decode prog_4_method_11_code 10 = .ok (.iconst 1, 1) := by decide +kernel
theorem d_X2_isLaw_11 : decode prog_4_method_11_code 11 = .ok (.goto 4, 3) := by decide +kernel
theorem d_X2_isLaw_15 : decode prog_4_method_11_code 15 = .ok (.ireturn, 1) := by decide +kernel
theorem d_X2_step_0 : decode prog_4_method_12_code 0 = .ok (.aload_n 0, 1) := by decide +kernel
theorem d_X2_step_1 : decode prog_4_method_12_code 1 = .ok (.aload_n 1, 1) := by decide +kernel
theorem k_283 : Cond.fieldLink "PinchedBill$Laws" 119 "PinchedBill$Walk" "bill" "I" ∈ gd_tbl := gd_in 283 (by decide +kernel) (by decide +kernel)
theorem d_X2_step_2 : decode prog_4_method_12_code 2 = .ok (.getfield 119, 3) := by decide +kernel
theorem d_X2_step_5 : decode prog_4_method_12_code 5 = .ok (.invokevirtual 116, 3) := by decide +kernel
theorem d_X2_step_8 : decode prog_4_method_12_code 8 = .ok (.iload_n 2, 1) := by decide +kernel
theorem d_X2_step_9 : decode prog_4_method_12_code 9 = .ok (.iand, 1) := by decide +kernel
theorem d_X2_step_10 : decode prog_4_method_12_code 10 = .ok (.aload_n 1, 1) := by decide +kernel
theorem k_288 : Cond.fieldLink "PinchedBill$Laws" 124 "PinchedBill$Walk" "spoke" "I" ∈ gd_tbl := gd_in 288 (by decide +kernel) (by decide +kernel)
theorem d_X2_step_11 : decode prog_4_method_12_code 11 = .ok (.getfield 124, 3) := by decide +kernel
theorem k_509 : Cond.code ⟨"PinchedBill$Laws", "speaker", "(II)I"⟩ prog_4_method_10_code 4 (some .int) ∈ gd_tbl := gd_in 509 (by decide +kernel) (by decide +kernel)
theorem k_550 : Cond.methodLink "PinchedBill$Laws" 127 ⟨"PinchedBill$Laws", "speaker", "(II)I"⟩ ∈ gd_tbl := gd_in 550 (by decide +kernel) (by decide +kernel)
theorem k_508 : Cond.static ⟨"PinchedBill$Laws", "speaker", "(II)I"⟩ ∈ gd_tbl := gd_in 508 (by decide +kernel) (by decide +kernel)
theorem kS_PinchedBill_Laws_127 : kS "PinchedBill$Laws" 127 ⟨"PinchedBill$Laws", "speaker", "(II)I"⟩ prog_4_method_10_code 4 (some .int) 2 := ⟨k_550, k_508, k_137, k_509, by decide, by decide, by decide +kernel⟩
theorem d_X2_step_14 : decode prog_4_method_12_code 14 = .ok (.invokestatic 127, 3) := by decide +kernel
theorem d_X2_step_17 : decode prog_4_method_12_code 17 = .ok (.istore_n 3, 1) := by decide +kernel
theorem d_X2_step_18 : decode prog_4_method_12_code 18 = .ok (.iload_n 3, 1) := by decide +kernel
theorem d_X2_step_19 : decode prog_4_method_12_code 19 = .ok (.iconst (-1), 1) := by decide +kernel
theorem d_X2_step_20 : decode prog_4_method_12_code 20 = .ok (.if_icmp .eq 21, 3) := by decide +kernel
theorem d_X2_step_41 : decode prog_4_method_12_code 41 = .ok (.iload_n 3, 1) := by decide +kernel
theorem d_X2_step_42 : decode prog_4_method_12_code 42 = .ok (.ireturn, 1) := by decide +kernel
theorem d_X2_stepOften_0 : decode prog_4_method_13_code 0 = .ok (.iconst 0, 1) := by decide +kernel
theorem d_X2_stepOften_1 : decode prog_4_method_13_code 1 = .ok (.istore 4, 2) := by decide +kernel
theorem d_X2_stepOften_3 : decode prog_4_method_13_code 3 = .ok (.iload 4, 2) := by decide +kernel
theorem d_X2_stepOften_5 : decode prog_4_method_13_code 5 = .ok (.iload_n 2, 1) := by decide +kernel
theorem d_X2_stepOften_6 : decode prog_4_method_13_code 6 = .ok (.if_icmp .ge 19, 3) := by decide +kernel
theorem d_X2_stepOften_25 : decode prog_4_method_13_code 25 = .ok (.iload 4, 2) := by decide +kernel
theorem d_X2_stepOften_27 : decode prog_4_method_13_code 27 = .ok (.ireturn, 1) := by decide +kernel
theorem d_X2_stepOften_9 : decode prog_4_method_13_code 9 = .ok (.aload_n 0, 1) := by decide +kernel
theorem d_X2_stepOften_10 : decode prog_4_method_13_code 10 = .ok (.aload_n 1, 1) := by decide +kernel
theorem d_X2_stepOften_11 : decode prog_4_method_13_code 11 = .ok (.iload_n 3, 1) := by decide +kernel
theorem k_548 : Cond.code ⟨"PinchedBill$Laws", "step", "(LPinchedBill$Walk;I)I"⟩ prog_4_method_12_code 4 (some .int) ∈ gd_tbl := gd_in 548 (by decide +kernel) (by decide +kernel)
theorem k_1051 : Cond.methodLink "PinchedBill$Laws" 133 ⟨"PinchedBill$Laws", "step", "(LPinchedBill$Walk;I)I"⟩ ∈ gd_tbl := gd_in 1051 (by decide +kernel) (by decide +kernel)
theorem k_546 : Cond.instanceMethod ⟨"PinchedBill$Laws", "step", "(LPinchedBill$Walk;I)I"⟩ ∈ gd_tbl := gd_in 546 (by decide +kernel) (by decide +kernel)
theorem k_547 : Cond.selects "PinchedBill$Laws" ⟨"PinchedBill$Laws", "step", "(LPinchedBill$Walk;I)I"⟩ ⟨"PinchedBill$Laws", "step", "(LPinchedBill$Walk;I)I"⟩ ∈ gd_tbl := gd_in 547 (by decide +kernel) (by decide +kernel)
theorem kV_PinchedBill_Laws_133 : kV "PinchedBill$Laws" 133 ⟨"PinchedBill$Laws", "step", "(LPinchedBill$Walk;I)I"⟩ prog_4_method_12_code 4 (some .int) 2 := ⟨k_1051, k_546, k_547, k_137, k_548, by decide, by decide, by decide +kernel⟩
theorem d_X2_stepOften_12 : decode prog_4_method_13_code 12 = .ok (.invokevirtual 133, 3) := by decide +kernel
theorem d_X2_stepOften_15 : decode prog_4_method_13_code 15 = .ok (.iconst (-1), 1) := by decide +kernel
theorem d_X2_stepOften_16 : decode prog_4_method_13_code 16 = .ok (.if_icmp .eq 9, 3) := by decide +kernel
theorem d_X7_start_0 : decode prog_9_method_2_code 0 = .ok (.aload_n 0, 1) := by decide +kernel
theorem d_X7_start_1 : decode prog_9_method_2_code 1 = .ok (.iload_n 1, 1) := by decide +kernel
theorem k_279 : Cond.fieldLink "PinchedBill$Walk" 15 "PinchedBill$Walk" "bill" "I" ∈ gd_tbl := gd_in 279 (by decide +kernel) (by decide +kernel)
theorem d_X7_start_2 : decode prog_9_method_2_code 2 = .ok (.putfield 15, 3) := by decide +kernel
theorem d_X7_start_5 : decode prog_9_method_2_code 5 = .ok (.aload_n 0, 1) := by decide +kernel
theorem d_X7_start_6 : decode prog_9_method_2_code 6 = .ok (.iconst (-1), 1) := by decide +kernel
theorem d_X7_start_7 : decode prog_9_method_2_code 7 = .ok (.putfield 9, 3) := by decide +kernel
theorem d_X7_start_10 : decode prog_9_method_2_code 10 = .ok (.return_, 1) := by decide +kernel
set_option maxHeartbeats 4000000 in
set_option maxRecDepth 100000 in
theorem c_unit (l : Launch) (D : va_G) (ty : Nat → ClassId) (h0 : Nat) (g1 : Nat) (g2 : Nat) (g3 : Nat) : CC l D ty ⟨"PinchedBill$House", "unit", "()I"⟩ prog_2_method_4_code 1 (some .int) 0 0 0 0 [.ref h0] [(h0, eO 0 [.int 0, .int 1, .int 0, .int 0, .int 0, .int 0, .int 0, .int 0, .int 0, .int 0, .ref g1, .ref g2, .ref g3])] (QI D ty (fun (r : Int32) (w : va_W) => 100 = r ∧ w = [(h0, eO 0 [.int 0, .int 1, .int 0, .int 0, .int 0, .int 0, .int 0, .int 0, .int 0, .int 0, .ref g1, .ref g2, .ref g3])])) := by
  refine CC_of (by decide) ?_
  intro p e s m below meth c A C hP hD hS
  obtain ⟨⟨hx, hb, hml, hown, hts⟩, hr, hlocks, hnm, hK, hE, hA, hZ⟩ := id C
  refine startW [.ref h0] 1 (nle rfl) (lv := [(0, .ref h0)]) rfl (fun ls hl => ?_)
  refine lv_aload_n hx hb d_X0_unit_0 rfl (lv_at hl 0 rfl) ?_
  refine r_get (v := .int 1) C hP 0 rfl rfl lay_X0 1 (by decide) k_166 rfl d_X0_unit_1 ?_
  refine lv_iconst (v := 1) hx hb d_X0_unit_4 (by decide) ?_
  refine b_icmp_neF C 11 d_X0_unit_5 (by decide) (by decide) ?_
  refine lv_bipush (v := 100) hx hb d_X0_unit_8 (by decide) ?_
  exact ret_I (w := [(h0, eO 0 [.int 0, .int 1, .int 0, .int 0, .int 0, .int 0, .int 0, .int 0, .int 0, .int 0, .ref g1, .ref g2, .ref g3])]) C hP hD hS [0] rfl rfl ⟨rfl, rfl⟩ (by decide) (by decide) d_X0_unit_10
set_option maxHeartbeats 4000000 in
set_option maxRecDepth 100000 in
theorem c_bills (l : Launch) (D : va_G) (ty : Nat → ClassId) (h0 : Nat) (g1 : Nat) (g2 : Nat) (g3 : Nat) : CC l D ty ⟨"PinchedBill$House", "bills", "()I"⟩ prog_2_method_5_code 1 (some .int) 0 0 0 0 [.ref h0] [(h0, eO 0 [.int 0, .int 1, .int 0, .int 0, .int 0, .int 0, .int 0, .int 0, .int 0, .int 0, .ref g1, .ref g2, .ref g3])] (QI D ty (fun (r : Int32) (w : va_W) => 10 = r ∧ w = [(h0, eO 0 [.int 0, .int 1, .int 0, .int 0, .int 0, .int 0, .int 0, .int 0, .int 0, .int 0, .ref g1, .ref g2, .ref g3])])) := by
  refine CC_of (by decide) ?_
  intro p e s m below meth c A C hP hD hS
  obtain ⟨⟨hx, hb, hml, hown, hts⟩, hr, hlocks, hnm, hK, hE, hA, hZ⟩ := id C
  refine startW [.ref h0] 1 (nle rfl) (lv := [(0, .ref h0)]) rfl (fun ls hl => ?_)
  refine lv_aload_n hx hb d_X0_bills_0 rfl (lv_at hl 0 rfl) ?_
  refine r_get (v := .int 1) C hP 0 rfl rfl lay_X0 1 (by decide) k_166 rfl d_X0_bills_1 ?_
  refine lv_iconst (v := 1) hx hb d_X0_bills_4 (by decide) ?_
  refine b_icmp_neF C 11 d_X0_bills_5 (by decide) (by decide) ?_
  refine lv_bipush (v := 10) hx hb d_X0_bills_8 (by decide) ?_
  exact ret_I (w := [(h0, eO 0 [.int 0, .int 1, .int 0, .int 0, .int 0, .int 0, .int 0, .int 0, .int 0, .int 0, .ref g1, .ref g2, .ref g3])]) C hP hD hS [0] rfl rfl ⟨rfl, rfl⟩ (by decide) (by decide) d_X0_bills_10
set_option maxHeartbeats 4000000 in
set_option maxRecDepth 100000 in
theorem c_billAt (l : Launch) (D : va_G) (ty : Nat → ClassId) (h0 : Nat) (g1 : Nat) (g2 : Nat) (g3 : Nat) (i : Nat) (hi : i < 1000) : CC l D ty ⟨"PinchedBill$House", "billAt", "(I)I"⟩ prog_2_method_6_code 2 (some .int) 1 20 0 0 [.ref h0, .int (nI i)] [(h0, eO 0 [.int 0, .int 1, .int 0, .int 0, .int 0, .int 0, .int 0, .int 0, .int 0, .int 0, .ref g1, .ref g2, .ref g3])] (QI D ty (fun (r : Int32) (w : va_W) => (nI (i * 100)) = r ∧ w = [(h0, eO 0 [.int 0, .int 1, .int 0, .int 0, .int 0, .int 0, .int 0, .int 0, .int 0, .int 0, .ref g1, .ref g2, .ref g3])])) := by
  refine CC_of (by decide) ?_
  intro p e s m below meth c A C hP hD hS
  obtain ⟨⟨hx, hb, hml, hown, hts⟩, hr, hlocks, hnm, hK, hE, hA, hZ⟩ := id C
  refine startW [.ref h0, .int (nI i)] 2 (nle rfl) (lv := [(0, .ref h0), (1, .int (nI i))]) rfl (fun ls hl => ?_)
  refine lv_iload_n hx hb d_X0_billAt_0 rfl (lv_at hl 1 rfl) ?_
  refine lv_aload_n hx hb d_X0_billAt_1 rfl (lv_at hl 0 rfl) ?_
  have ct_1 : Cut [(h0, eO 0 [.int 0, .int 1, .int 0, .int 0, .int 0, .int 0, .int 0, .int 0, .int 0, .int 0, .ref g1, .ref g2, .ref g3])] [(h0, eO 0 [.int 0, .int 1, .int 0, .int 0, .int 0, .int 0, .int 0, .int 0, .int 0, .int 0, .ref g1, .ref g2, .ref g3])] [] [0] [] := ⟨rfl, rfl, rfl, rfl, by decide⟩
  refine cont_I C hP hD hS ct_1 (run_V (As := []) (rest := [.int (nI i)]) C hP hD hS ct_1 (c_unit l D ty h0 g1 g2 g3) kV_PinchedBill_House_64 0 rfl rfl rfl rfl hl.1 rfl (nle rfl) d_X0_billAt_2 ⟨by decide, by decide, by decide, by decide⟩) (fun r_3 w_4 H locs hw_2 hP hD hS => ?_)
  obtain ⟨rfl, rfl⟩ := hw_2
  have hP : va_P D vwCl [(h0, eO 0 [.int 0, .int 1, .int 0, .int 0, .int 0, .int 0, .int 0, .int 0, .int 0, .int 0, .ref g1, .ref g2, .ref g3])] H := hP
  have hD : va_D A [(h0, eO 0 [.int 0, .int 1, .int 0, .int 0, .int 0, .int 0, .int 0, .int 0, .int 0, .int 0, .ref g1, .ref g2, .ref g3])] := hD
  refine r_imul (z := (nI (i * 100))) C d_X0_billAt_5 (a_mul i 100 (i * 100) rfl rfl (by omega)) ?_
  exact ret_I (w := [(h0, eO 0 [.int 0, .int 1, .int 0, .int 0, .int 0, .int 0, .int 0, .int 0, .int 0, .int 0, .ref g1, .ref g2, .ref g3])]) C hP hD hS [0] rfl rfl ⟨rfl, rfl⟩ (by decide) (by decide) d_X0_billAt_6
set_option maxHeartbeats 4000000 in
set_option maxRecDepth 100000 in
theorem c_isBill (l : Launch) (D : va_G) (ty : Nat → ClassId) (h0 : Nat) (g1 : Nat) (g2 : Nat) (g3 : Nat) (b : Int32) : CC l D ty ⟨"PinchedBill$House", "isBill", "(I)Z"⟩ prog_2_method_7_code 2 (some .boolean) 0 0 0 0 [.ref h0, .int b] [(h0, eO 0 [.int 0, .int 1, .int 0, .int 0, .int 0, .int 0, .int 0, .int 0, .int 0, .int 0, .ref g1, .ref g2, .ref g3])] (QI D ty (fun (r : Int32) (w : va_W) => (bB b) = r ∧ w = [(h0, eO 0 [.int 0, .int 1, .int 0, .int 0, .int 0, .int 0, .int 0, .int 0, .int 0, .int 0, .ref g1, .ref g2, .ref g3])])) := by
  refine CC_of (by decide) ?_
  intro p e s m below meth c A C hP hD hS
  obtain ⟨⟨hx, hb, hml, hown, hts⟩, hr, hlocks, hnm, hK, hE, hA, hZ⟩ := id C
  refine startW [.ref h0, .int b] 2 (nle rfl) (lv := [(0, .ref h0), (1, .int b)]) rfl (fun ls hl => ?_)
  refine lv_iload_n hx hb d_X0_isBill_0 rfl (lv_at hl 1 rfl) ?_
  refine lv_if_lt (tgt := 11) hx hb d_X0_isBill_1 (by decide) (fun hc_1 => ?_) (fun hc_1 => ?_)
  · refine lv_iconst (v := 0) hx hb d_X0_isBill_11 (by decide) ?_
    exact ret_Z (w := [(h0, eO 0 [.int 0, .int 1, .int 0, .int 0, .int 0, .int 0, .int 0, .int 0, .int 0, .int 0, .ref g1, .ref g2, .ref g3])]) C rfl hP hD hS [0] rfl rfl ⟨(Eq.symm (by unfold bB; simp [hc_1])), rfl⟩ (by decide) (by decide) d_X0_isBill_12
  · refine lv_iload_n hx hb d_X0_isBill_4 rfl (lv_at hl 1 rfl) ?_
    refine lv_sipush (v := 1000) hx hb d_X0_isBill_5 (by decide) ?_
    refine lv_icmp_lt (tgt := 13) hx hb d_X0_isBill_8 (by decide) (fun hc_2 => ?_) (fun hc_2 => ?_)
    · refine lv_aload_n hx hb d_X0_isBill_13 rfl (lv_at hl 0 rfl) ?_
      refine r_get (v := .int 1) C hP 0 rfl rfl lay_X0 1 (by decide) k_166 rfl d_X0_isBill_14 ?_
      refine lv_iconst (v := 1) hx hb d_X0_isBill_17 (by decide) ?_
      refine b_icmp_neF C 34 d_X0_isBill_18 (by decide) (by decide) ?_
      refine lv_iload_n hx hb d_X0_isBill_21 rfl (lv_at hl 1 rfl) ?_
      refine lv_bipush (v := 100) hx hb d_X0_isBill_22 (by decide) ?_
      refine r_irem (z := (b - b / 100 * 100)) C d_X0_isBill_24 (by decide) rfl ?_
      refine lv_if_ne (tgt := 32) hx hb d_X0_isBill_25 (by decide) (fun hc_3 => ?_) (fun hc_3 => ?_)
      · refine lv_iconst (v := 0) hx hb d_X0_isBill_32 (by decide) ?_
        exact ret_Z (w := [(h0, eO 0 [.int 0, .int 1, .int 0, .int 0, .int 0, .int 0, .int 0, .int 0, .int 0, .int 0, .ref g1, .ref g2, .ref g3])]) C rfl hP hD hS [0] rfl rfl ⟨(Eq.symm (by unfold bB; simp [hc_1, hc_2, hc_3])), rfl⟩ (by decide) (by decide) d_X0_isBill_33
      · refine lv_iconst (v := 1) hx hb d_X0_isBill_28 (by decide) ?_
        refine lv_goto (tgt := 33) hx hb d_X0_isBill_29 (by decide) ?_
        exact ret_Z (w := [(h0, eO 0 [.int 0, .int 1, .int 0, .int 0, .int 0, .int 0, .int 0, .int 0, .int 0, .int 0, .ref g1, .ref g2, .ref g3])]) C rfl hP hD hS [0] rfl rfl ⟨(Eq.symm (by unfold bB; simp [hc_1, hc_2, hc_3])), rfl⟩ (by decide) (by decide) d_X0_isBill_33
    · refine lv_iconst (v := 0) hx hb d_X0_isBill_11 (by decide) ?_
      exact ret_Z (w := [(h0, eO 0 [.int 0, .int 1, .int 0, .int 0, .int 0, .int 0, .int 0, .int 0, .int 0, .int 0, .ref g1, .ref g2, .ref g3])]) C rfl hP hD hS [0] rfl rfl ⟨(Eq.symm (by unfold bB; simp [hc_1, hc_2])), rfl⟩ (by decide) (by decide) d_X0_isBill_12
set_option maxHeartbeats 4000000 in
set_option maxRecDepth 100000 in
theorem c_whole (l : Launch) (D : va_G) (ty : Nat → ClassId) (h0 : Nat) (g1 : Nat) (g2 : Nat) (g3 : Nat) : CC l D ty ⟨"PinchedBill$House", "wholeChance", "()J"⟩ prog_2_method_16_code 4 (some .long) 0 0 0 0 [.ref h0] [(h0, eO 0 [.int 0, .int 1, .int 0, .int 0, .int 0, .int 0, .int 0, .int 0, .int 0, .int 0, .ref g1, .ref g2, .ref g3])] (QL D ty (fun (r : Int64) (w : va_W) => 1 = r ∧ w = [(h0, eO 0 [.int 0, .int 1, .int 0, .int 0, .int 0, .int 0, .int 0, .int 0, .int 0, .int 0, .ref g1, .ref g2, .ref g3])])) := by
  refine CC_of (by decide) ?_
  intro p e s m below meth c A C hP hD hS
  obtain ⟨⟨hx, hb, hml, hown, hts⟩, hr, hlocks, hnm, hK, hE, hA, hZ⟩ := id C
  refine startW [.ref h0] 4 (nle rfl) (lv := [(0, .ref h0)]) rfl (fun ls hl => ?_)
  refine lv_lconst (v := 1) hx hb d_X0_wholeChance_0 (by decide) ?_
  refine lv_lstore_n (lv' := [(1, .long 1), (0, .ref h0)]) hx hb d_X0_wholeChance_1 rfl hl (by decide) rfl (fun ls hl => ?_)
  refine lv_iconst (v := 0) hx hb d_X0_wholeChance_2 (by decide) ?_
  refine lv_istore_n (lv' := [(3, .int 0), (1, .long 1), (0, .ref h0)]) hx hb d_X0_wholeChance_3 rfl hl (by decide) rfl (fun ls hl => ?_)
  refine lv_iload_n hx hb d_X0_wholeChance_4 rfl (lv_at hl 0 rfl) ?_
  refine lv_aload_n hx hb d_X0_wholeChance_5 rfl (lv_at hl 2 rfl) ?_
  refine r_get (v := .int 0) C hP 0 rfl rfl lay_X0 2 (by decide) k_170 rfl d_X0_wholeChance_6 ?_
  refine b_icmp_geT C 24 d_X0_wholeChance_9 (by decide) (by decide) ?_
  refine lv_lload_n hx hb d_X0_wholeChance_24 rfl (lv_at hl 1 rfl) ?_
  exact ret_L (w := [(h0, eO 0 [.int 0, .int 1, .int 0, .int 0, .int 0, .int 0, .int 0, .int 0, .int 0, .int 0, .ref g1, .ref g2, .ref g3])]) C hP hD hS [0] rfl rfl ⟨rfl, rfl⟩ (by decide) (by decide) d_X0_wholeChance_25
set_option maxHeartbeats 4000000 in
set_option maxRecDepth 100000 in
theorem c_fig0 (l : Launch) (D : va_G) (ty : Nat → ClassId) (b : Nat) (hbd : b < 1000) : CC l D ty ⟨"PinchedBill", "figureOf", "(II)I"⟩ prog_1_method_67_code 2 (some .int) 0 0 0 0 [.int (nI b), .int 0] [] (QI D ty (fun (r : Int32) (w : va_W) => (nI (b / 100)) = r ∧ w = [])) := by
  refine CC_of (by decide) ?_
  intro p e s m below meth c A C hP hD hS
  obtain ⟨⟨hx, hb, hml, hown, hts⟩, hr, hlocks, hnm, hK, hE, hA, hZ⟩ := id C
  refine startW [.int (nI b), .int 0] 2 (nle rfl) (lv := [(0, .int (nI b)), (1, .int 0)]) rfl (fun ls hl => ?_)
  refine lv_iload_n hx hb d_X8_figureOf_0 rfl (lv_at hl 1 rfl) ?_
  refine b_if_neF C 9 d_X8_figureOf_1 (by decide) (by decide) ?_
  refine lv_iload_n hx hb d_X8_figureOf_4 rfl (lv_at hl 0 rfl) ?_
  refine lv_bipush (v := 100) hx hb d_X8_figureOf_5 (by decide) ?_
  refine r_idiv (z := (nI (b / 100))) C d_X8_figureOf_7 (by decide) (a_div b 100 (b / 100) rfl rfl (by omega) (by omega) (by omega) rfl) ?_
  exact ret_I (w := []) C hP hD hS [] rfl rfl ⟨rfl, rfl⟩ (by decide) (by decide) d_X8_figureOf_8
set_option maxHeartbeats 4000000 in
set_option maxRecDepth 100000 in
theorem c_fig1 (l : Launch) (D : va_G) (ty : Nat → ClassId) (b : Nat) (hbd : b < 1000) : CC l D ty ⟨"PinchedBill", "figureOf", "(II)I"⟩ prog_1_method_67_code 2 (some .int) 0 0 0 0 [.int (nI b), .int 1] [] (QI D ty (fun (r : Int32) (w : va_W) => (nI ((b / 10) % 10)) = r ∧ w = [])) := by
  refine CC_of (by decide) ?_
  intro p e s m below meth c A C hP hD hS
  obtain ⟨⟨hx, hb, hml, hown, hts⟩, hr, hlocks, hnm, hK, hE, hA, hZ⟩ := id C
  refine startW [.int (nI b), .int 1] 2 (nle rfl) (lv := [(0, .int (nI b)), (1, .int 1)]) rfl (fun ls hl => ?_)
  refine lv_iload_n hx hb d_X8_figureOf_0 rfl (lv_at hl 1 rfl) ?_
  refine b_if_neT C 9 d_X8_figureOf_1 (by decide) (by decide) ?_
  refine lv_iload_n hx hb d_X8_figureOf_9 rfl (lv_at hl 1 rfl) ?_
  refine lv_iconst (v := 1) hx hb d_X8_figureOf_10 (by decide) ?_
  refine b_icmp_neF C 24 d_X8_figureOf_11 (by decide) (by decide) ?_
  refine lv_iload_n hx hb d_X8_figureOf_14 rfl (lv_at hl 0 rfl) ?_
  refine lv_bipush (v := 10) hx hb d_X8_figureOf_15 (by decide) ?_
  refine r_idiv (z := (nI (b / 10))) C d_X8_figureOf_17 (by decide) (a_div b 10 (b / 10) rfl rfl (by omega) (by omega) (by omega) rfl) ?_
  refine lv_bipush (v := 10) hx hb d_X8_figureOf_18 (by decide) ?_
  refine r_irem (z := (nI ((b / 10) % 10))) C d_X8_figureOf_20 (by decide) (a_rem (b / 10) 10 ((b / 10) % 10) rfl rfl (by omega) (by omega) (by omega) rfl) ?_
  refine lv_goto (tgt := 28) hx hb d_X8_figureOf_21 (by decide) ?_
  exact ret_I (w := []) C hP hD hS [] rfl rfl ⟨rfl, rfl⟩ (by decide) (by decide) d_X8_figureOf_28
set_option maxHeartbeats 4000000 in
set_option maxRecDepth 100000 in
theorem c_fig2 (l : Launch) (D : va_G) (ty : Nat → ClassId) (b : Nat) (hbd : b < 1000) : CC l D ty ⟨"PinchedBill", "figureOf", "(II)I"⟩ prog_1_method_67_code 2 (some .int) 0 0 0 0 [.int (nI b), .int 2] [] (QI D ty (fun (r : Int32) (w : va_W) => (nI (b % 10)) = r ∧ w = [])) := by
  refine CC_of (by decide) ?_
  intro p e s m below meth c A C hP hD hS
  obtain ⟨⟨hx, hb, hml, hown, hts⟩, hr, hlocks, hnm, hK, hE, hA, hZ⟩ := id C
  refine startW [.int (nI b), .int 2] 2 (nle rfl) (lv := [(0, .int (nI b)), (1, .int 2)]) rfl (fun ls hl => ?_)
  refine lv_iload_n hx hb d_X8_figureOf_0 rfl (lv_at hl 1 rfl) ?_
  refine b_if_neT C 9 d_X8_figureOf_1 (by decide) (by decide) ?_
  refine lv_iload_n hx hb d_X8_figureOf_9 rfl (lv_at hl 1 rfl) ?_
  refine lv_iconst (v := 1) hx hb d_X8_figureOf_10 (by decide) ?_
  refine b_icmp_neT C 24 d_X8_figureOf_11 (by decide) (by decide) ?_
  refine lv_iload_n hx hb d_X8_figureOf_24 rfl (lv_at hl 0 rfl) ?_
  refine lv_bipush (v := 10) hx hb d_X8_figureOf_25 (by decide) ?_
  refine r_irem (z := (nI (b % 10))) C d_X8_figureOf_27 (by decide) (a_rem b 10 (b % 10) rfl rfl (by omega) (by omega) (by omega) rfl) ?_
  exact ret_I (w := []) C hP hD hS [] rfl rfl ⟨rfl, rfl⟩ (by decide) (by decide) d_X8_figureOf_28
set_option maxHeartbeats 4000000 in
set_option maxRecDepth 100000 in
theorem c_setFig (l : Launch) (D : va_G) (ty : Nat → ClassId) (h0 : Nat) (ho : Nat) (l1 : Nat) (l2 : Nat) (l3 : Nat) (l4 : Nat) (v : Nat → Int32) (b : Nat) (hbd : b < 1000) : CC l D ty ⟨"PinchedBill$Laws", "setFigures", "(I)V"⟩ prog_4_method_6_code 3 none 1 21 0 0 [.ref h0, .int (nI b)] [(h0, eO 2 [.ref ho, .ref l1, .ref l2, .ref l3, .ref l4]), (l3, eI (ty 0) 8 v)] (QV D ty (fun (w : va_W) => ∃ (v9 : Nat → Int32), w = [(h0, eO 2 [.ref ho, .ref l1, .ref l2, .ref l3, .ref l4]), (l3, eI (ty 0) 8 v9)])) := by
  refine CC_of (by decide) ?_
  intro p e s m below meth c A C hP hD hS
  obtain ⟨⟨hx, hb, hml, hown, hts⟩, hr, hlocks, hnm, hK, hE, hA, hZ⟩ := id C
  refine startW [.ref h0, .int (nI b)] 3 (nle rfl) (lv := [(0, .ref h0), (1, .int (nI b))]) rfl (fun ls hl => ?_)
  refine lv_iconst (v := 0) hx hb d_X2_setFigures_0 (by decide) ?_
  refine lv_istore_n (lv' := [(2, .int 0), (0, .ref h0), (1, .int (nI b))]) hx hb d_X2_setFigures_1 rfl hl (by decide) rfl (fun ls hl => ?_)
  refine lv_iload_n hx hb d_X2_setFigures_2 rfl (lv_at hl 0 rfl) ?_
  refine lv_iconst (v := 3) hx hb d_X2_setFigures_3 (by decide) ?_
  refine b_icmp_geF C 24 d_X2_setFigures_4 (by decide) (by decide) ?_
  refine lv_aload_n hx hb d_X2_setFigures_7 rfl (lv_at hl 1 rfl) ?_
  refine r_get (v := .ref l3) C hP 0 rfl rfl lay_X2 3 (by decide) k_391 rfl d_X2_setFigures_8 ?_
  refine lv_iload_n hx hb d_X2_setFigures_11 rfl (lv_at hl 0 rfl) ?_
  refine lv_iload_n hx hb d_X2_setFigures_12 rfl (lv_at hl 2 rfl) ?_
  refine lv_iload_n hx hb d_X2_setFigures_13 rfl (lv_at hl 0 rfl) ?_
  have ct_1 : Cut [(h0, eO 2 [.ref ho, .ref l1, .ref l2, .ref l3, .ref l4]), (l3, eI (ty 0) 8 v)] [] [(h0, eO 2 [.ref ho, .ref l1, .ref l2, .ref l3, .ref l4]), (l3, eI (ty 0) 8 v)] [] [0, 1] := ⟨rfl, rfl, rfl, rfl, by decide⟩
  refine cont_I C hP hD hS ct_1 (run_SN (As := [.int (nI b), .int 0]) (rest := [.int 0, .ref l3]) C hP hD hS ct_1 (c_fig0 l D ty b hbd) kSN_PinchedBill_Laws_64 rfl hl.1 rfl (nle rfl) d_X2_setFigures_14 ⟨by decide, by decide, by decide, by decide⟩) (fun r_3 w_4 H locs hw_2 hP hD hS => ?_)
  obtain ⟨rfl, rfl⟩ := hw_2
  have hP : va_P D vwCl [(h0, eO 2 [.ref ho, .ref l1, .ref l2, .ref l3, .ref l4]), (l3, eI (ty 0) 8 v)] H := hP
  have hD : va_D A [(h0, eO 2 [.ref ho, .ref l1, .ref l2, .ref l3, .ref l4]), (l3, eI (ty 0) 8 v)] := hD
  refine r_iast (w := [(h0, eO 2 [.ref ho, .ref l1, .ref l2, .ref l3, .ref l4]), (l3, eI (ty 0) 8 (upd v 0 (nI (b / 100))))]) C hP hD hS 1 rfl 0 rfl (by decide) (by decide) rfl d_X2_setFigures_17 (fun H locs hP hD hS => ?_)
  refine lv_iinc (v := 1) (lv' := [(2, .int 1), (0, .ref h0), (1, .int (nI b))]) (k := 0) hx hb d_X2_setFigures_18 hl rfl (by decide) (by decide) rfl (fun ls hl => ?_)
  refine lv_goto (tgt := 2) hx hb d_X2_setFigures_21 (by decide) ?_
  refine lv_iload_n hx hb d_X2_setFigures_2 rfl (lv_at hl 0 rfl) ?_
  refine lv_iconst (v := 3) hx hb d_X2_setFigures_3 (by decide) ?_
  refine b_icmp_geF C 24 d_X2_setFigures_4 (by decide) (by decide) ?_
  refine lv_aload_n hx hb d_X2_setFigures_7 rfl (lv_at hl 1 rfl) ?_
  refine r_get (v := .ref l3) C hP 0 rfl rfl lay_X2 3 (by decide) k_391 rfl d_X2_setFigures_8 ?_
  refine lv_iload_n hx hb d_X2_setFigures_11 rfl (lv_at hl 0 rfl) ?_
  refine lv_iload_n hx hb d_X2_setFigures_12 rfl (lv_at hl 2 rfl) ?_
  refine lv_iload_n hx hb d_X2_setFigures_13 rfl (lv_at hl 0 rfl) ?_
  have ct_5 : Cut [(h0, eO 2 [.ref ho, .ref l1, .ref l2, .ref l3, .ref l4]), (l3, eI (ty 0) 8 (upd v 0 (nI (b / 100))))] [] [(h0, eO 2 [.ref ho, .ref l1, .ref l2, .ref l3, .ref l4]), (l3, eI (ty 0) 8 (upd v 0 (nI (b / 100))))] [] [0, 1] := ⟨rfl, rfl, rfl, rfl, by decide⟩
  refine cont_I C hP hD hS ct_5 (run_SN (As := [.int (nI b), .int 1]) (rest := [.int 1, .ref l3]) C hP hD hS ct_5 (c_fig1 l D ty b hbd) kSN_PinchedBill_Laws_64 rfl hl.1 rfl (nle rfl) d_X2_setFigures_14 ⟨by decide, by decide, by decide, by decide⟩) (fun r_7 w_8 H locs hw_6 hP hD hS => ?_)
  obtain ⟨rfl, rfl⟩ := hw_6
  have hP : va_P D vwCl [(h0, eO 2 [.ref ho, .ref l1, .ref l2, .ref l3, .ref l4]), (l3, eI (ty 0) 8 (upd v 0 (nI (b / 100))))] H := hP
  have hD : va_D A [(h0, eO 2 [.ref ho, .ref l1, .ref l2, .ref l3, .ref l4]), (l3, eI (ty 0) 8 (upd v 0 (nI (b / 100))))] := hD
  refine r_iast (w := [(h0, eO 2 [.ref ho, .ref l1, .ref l2, .ref l3, .ref l4]), (l3, eI (ty 0) 8 (upd (upd v 0 (nI (b / 100))) 1 (nI ((b / 10) % 10))))]) C hP hD hS 1 rfl 1 rfl (by decide) (by decide) rfl d_X2_setFigures_17 (fun H locs hP hD hS => ?_)
  refine lv_iinc (v := 2) (lv' := [(2, .int 2), (0, .ref h0), (1, .int (nI b))]) (k := 0) hx hb d_X2_setFigures_18 hl rfl (by decide) (by decide) rfl (fun ls hl => ?_)
  refine lv_goto (tgt := 2) hx hb d_X2_setFigures_21 (by decide) ?_
  refine lv_iload_n hx hb d_X2_setFigures_2 rfl (lv_at hl 0 rfl) ?_
  refine lv_iconst (v := 3) hx hb d_X2_setFigures_3 (by decide) ?_
  refine b_icmp_geF C 24 d_X2_setFigures_4 (by decide) (by decide) ?_
  refine lv_aload_n hx hb d_X2_setFigures_7 rfl (lv_at hl 1 rfl) ?_
  refine r_get (v := .ref l3) C hP 0 rfl rfl lay_X2 3 (by decide) k_391 rfl d_X2_setFigures_8 ?_
  refine lv_iload_n hx hb d_X2_setFigures_11 rfl (lv_at hl 0 rfl) ?_
  refine lv_iload_n hx hb d_X2_setFigures_12 rfl (lv_at hl 2 rfl) ?_
  refine lv_iload_n hx hb d_X2_setFigures_13 rfl (lv_at hl 0 rfl) ?_
  have ct_9 : Cut [(h0, eO 2 [.ref ho, .ref l1, .ref l2, .ref l3, .ref l4]), (l3, eI (ty 0) 8 (upd (upd v 0 (nI (b / 100))) 1 (nI ((b / 10) % 10))))] [] [(h0, eO 2 [.ref ho, .ref l1, .ref l2, .ref l3, .ref l4]), (l3, eI (ty 0) 8 (upd (upd v 0 (nI (b / 100))) 1 (nI ((b / 10) % 10))))] [] [0, 1] := ⟨rfl, rfl, rfl, rfl, by decide⟩
  refine cont_I C hP hD hS ct_9 (run_SN (As := [.int (nI b), .int 2]) (rest := [.int 2, .ref l3]) C hP hD hS ct_9 (c_fig2 l D ty b hbd) kSN_PinchedBill_Laws_64 rfl hl.1 rfl (nle rfl) d_X2_setFigures_14 ⟨by decide, by decide, by decide, by decide⟩) (fun r_11 w_12 H locs hw_10 hP hD hS => ?_)
  obtain ⟨rfl, rfl⟩ := hw_10
  have hP : va_P D vwCl [(h0, eO 2 [.ref ho, .ref l1, .ref l2, .ref l3, .ref l4]), (l3, eI (ty 0) 8 (upd (upd v 0 (nI (b / 100))) 1 (nI ((b / 10) % 10))))] H := hP
  have hD : va_D A [(h0, eO 2 [.ref ho, .ref l1, .ref l2, .ref l3, .ref l4]), (l3, eI (ty 0) 8 (upd (upd v 0 (nI (b / 100))) 1 (nI ((b / 10) % 10))))] := hD
  refine r_iast (w := [(h0, eO 2 [.ref ho, .ref l1, .ref l2, .ref l3, .ref l4]), (l3, eI (ty 0) 8 (upd (upd (upd v 0 (nI (b / 100))) 1 (nI ((b / 10) % 10))) 2 (nI (b % 10))))]) C hP hD hS 1 rfl 2 rfl (by decide) (by decide) rfl d_X2_setFigures_17 (fun H locs hP hD hS => ?_)
  refine lv_iinc (v := 3) (lv' := [(2, .int 3), (0, .ref h0), (1, .int (nI b))]) (k := 0) hx hb d_X2_setFigures_18 hl rfl (by decide) (by decide) rfl (fun ls hl => ?_)
  refine lv_goto (tgt := 2) hx hb d_X2_setFigures_21 (by decide) ?_
  refine lv_iload_n hx hb d_X2_setFigures_2 rfl (lv_at hl 0 rfl) ?_
  refine lv_iconst (v := 3) hx hb d_X2_setFigures_3 (by decide) ?_
  refine b_icmp_geT C 24 d_X2_setFigures_4 (by decide) (by decide) ?_
  exact ret_V (w := [(h0, eO 2 [.ref ho, .ref l1, .ref l2, .ref l3, .ref l4]), (l3, eI (ty 0) 8 (upd (upd (upd v 0 (nI (b / 100))) 1 (nI ((b / 10) % 10))) 2 (nI (b % 10))))]) C hP hD hS [0, 1] rfl rfl ⟨(upd (upd (upd v 0 (nI (b / 100))) 1 (nI ((b / 10) % 10))) 2 (nI (b % 10))), rfl⟩ (by decide) (by decide) d_X2_setFigures_24
set_option maxHeartbeats 4000000 in
set_option maxRecDepth 100000 in
theorem c_pin (l : Launch) (D : va_G) (ty : Nat → ClassId) (h0 : Nat) (ho : Nat) (l1 : Nat) (l2 : Nat) (l3 : Nat) (l4 : Nat) (g1 : Nat) (g2 : Nat) (g3 : Nat) (f : Nat → Int32) (v : Nat → Int32) (b : Nat) (hbd : b < 1000) (hf : B01 f) : CC l D ty ⟨"PinchedBill$Laws", "pinchedBy", "(I)I"⟩ prog_4_method_3_code 5 (some .int) 2 43 0 0 [.ref h0, .int (nI b)] [(h0, eO 2 [.ref ho, .ref l1, .ref l2, .ref l3, .ref l4]), (ho, eO 0 [.int 0, .int 1, .int 0, .int 0, .int 0, .int 0, .int 0, .int 0, .int 0, .int 0, .ref g1, .ref g2, .ref g3]), (l1, eI (ty 0) 1000 f), (l3, eI (ty 0) 8 v)] (QI D ty (fun (r : Int32) (w : va_W) => ∃ (f9 : Nat → Int32) (v9 : Nat → Int32), (B01 f9) ∧ 0 = r ∧ w = [(h0, eO 2 [.ref ho, .ref l1, .ref l2, .ref l3, .ref l4]), (ho, eO 0 [.int 0, .int 1, .int 0, .int 0, .int 0, .int 0, .int 0, .int 0, .int 0, .int 0, .ref g1, .ref g2, .ref g3]), (l1, eI (ty 0) 1000 f9), (l3, eI (ty 0) 8 v9)])) := by
  refine CC_of (by decide) ?_
  intro p e s m below meth c A C hP hD hS
  obtain ⟨⟨hx, hb, hml, hown, hts⟩, hr, hlocks, hnm, hK, hE, hA, hZ⟩ := id C
  refine startW [.ref h0, .int (nI b)] 5 (nle rfl) (lv := [(0, .ref h0), (1, .int (nI b))]) rfl (fun ls hl => ?_)
  refine lv_iload_n hx hb d_X2_pinchedBy_0 rfl (lv_at hl 1 rfl) ?_
  refine b_if_ltF C 11 d_X2_pinchedBy_1 (by decide) (n_nlt b 0 rfl rfl (by omega) (by omega)) ?_
  refine lv_iload_n hx hb d_X2_pinchedBy_4 rfl (lv_at hl 1 rfl) ?_
  refine lv_sipush (v := 1000) hx hb d_X2_pinchedBy_5 (by decide) ?_
  refine b_icmp_ltT C 13 d_X2_pinchedBy_8 (by decide) (n_lt b 1000 rfl rfl (by omega) (by omega)) ?_
  refine lv_aload_n hx hb d_X2_pinchedBy_13 rfl (lv_at hl 0 rfl) ?_
  refine r_get (v := .ref l1) C hP 0 rfl rfl lay_X2 1 (by decide) k_389 rfl d_X2_pinchedBy_14 ?_
  refine lv_iload_n hx hb d_X2_pinchedBy_17 rfl (lv_at hl 1 rfl) ?_
  refine r_iald (v := (f b)) C hP 2 rfl b rfl (by omega) (by decide) rfl d_X2_pinchedBy_18 ?_
  refine lv_if_eq (tgt := 31) hx hb d_X2_pinchedBy_19 (by decide) (fun hc_1 => ?_) (fun hc_1 => ?_)
  · refine lv_iconst (v := 0) hx hb d_X2_pinchedBy_31 (by decide) ?_
    refine lv_istore_n (lv' := [(2, .int 0), (0, .ref h0), (1, .int (nI b))]) hx hb d_X2_pinchedBy_32 rfl hl (by decide) rfl (fun ls hl => ?_)
    refine lv_aload_n hx hb d_X2_pinchedBy_33 rfl (lv_at hl 1 rfl) ?_
    refine lv_iload_n hx hb d_X2_pinchedBy_34 rfl (lv_at hl 2 rfl) ?_
    have ct_2 : Cut [(h0, eO 2 [.ref ho, .ref l1, .ref l2, .ref l3, .ref l4]), (ho, eO 0 [.int 0, .int 1, .int 0, .int 0, .int 0, .int 0, .int 0, .int 0, .int 0, .int 0, .ref g1, .ref g2, .ref g3]), (l1, eI (ty 0) 1000 f), (l3, eI (ty 0) 8 v)] [(h0, eO 2 [.ref ho, .ref l1, .ref l2, .ref l3, .ref l4]), (l3, eI (ty 0) 8 v)] [(ho, eO 0 [.int 0, .int 1, .int 0, .int 0, .int 0, .int 0, .int 0, .int 0, .int 0, .int 0, .ref g1, .ref g2, .ref g3]), (l1, eI (ty 0) 1000 f)] [0, 3] [1, 2] := ⟨rfl, rfl, rfl, rfl, by decide⟩
    refine cont_V C hP hD hS ct_2 (run_V (As := [.int (nI b)]) (rest := []) C hP hD hS ct_2 (c_setFig l D ty h0 ho l1 l2 l3 l4 v b hbd) kV_PinchedBill_Laws_34 0 rfl rfl rfl rfl hl.1 rfl (nle rfl) d_X2_pinchedBy_35 ⟨by decide, by decide, by decide, by decide⟩) (fun w_6 H locs hw_4 hP hD hS => ?_)
    obtain ⟨v9_3, rfl⟩ := hw_4
    have hP : va_P D vwCl [(ho, eO 0 [.int 0, .int 1, .int 0, .int 0, .int 0, .int 0, .int 0, .int 0, .int 0, .int 0, .ref g1, .ref g2, .ref g3]), (l1, eI (ty 0) 1000 f), (h0, eO 2 [.ref ho, .ref l1, .ref l2, .ref l3, .ref l4]), (l3, eI (ty 0) 8 v9_3)] H := hP
    have hD : va_D A [(ho, eO 0 [.int 0, .int 1, .int 0, .int 0, .int 0, .int 0, .int 0, .int 0, .int 0, .int 0, .ref g1, .ref g2, .ref g3]), (l1, eI (ty 0) 1000 f), (h0, eO 2 [.ref ho, .ref l1, .ref l2, .ref l3, .ref l4]), (l3, eI (ty 0) 8 v9_3)] := hD
    refine lv_iconst (v := 0) hx hb d_X2_pinchedBy_38 (by decide) ?_
    refine lv_istore_n (lv' := [(3, .int 0), (2, .int 0), (0, .ref h0), (1, .int (nI b))]) hx hb d_X2_pinchedBy_39 rfl hl (by decide) rfl (fun ls hl => ?_)
    refine lv_iload_n hx hb d_X2_pinchedBy_40 rfl (lv_at hl 0 rfl) ?_
    refine lv_aload_n hx hb d_X2_pinchedBy_41 rfl (lv_at hl 2 rfl) ?_
    refine r_get (v := .ref ho) C hP 2 rfl rfl lay_X2 0 (by decide) k_388 rfl d_X2_pinchedBy_42 ?_
    refine r_get (v := .int 0) C hP 0 rfl rfl lay_X0 2 (by decide) k_171 rfl d_X2_pinchedBy_45 ?_
    refine b_icmp_geT C 133 d_X2_pinchedBy_48 (by decide) (by decide) ?_
    refine lv_aload_n hx hb d_X2_pinchedBy_133 rfl (lv_at hl 2 rfl) ?_
    refine r_get (v := .ref l1) C hP 2 rfl rfl lay_X2 1 (by decide) k_389 rfl d_X2_pinchedBy_134 ?_
    refine lv_iload_n hx hb d_X2_pinchedBy_137 rfl (lv_at hl 3 rfl) ?_
    refine lv_iload_n hx hb d_X2_pinchedBy_138 rfl (lv_at hl 1 rfl) ?_
    refine lv_iconst (v := 1) hx hb d_X2_pinchedBy_139 (by decide) ?_
    refine r_iadd (z := 1) C d_X2_pinchedBy_140 (by decide) ?_
    refine r_iast (w := [(ho, eO 0 [.int 0, .int 1, .int 0, .int 0, .int 0, .int 0, .int 0, .int 0, .int 0, .int 0, .ref g1, .ref g2, .ref g3]), (l1, eI (ty 0) 1000 (upd f b 1)), (h0, eO 2 [.ref ho, .ref l1, .ref l2, .ref l3, .ref l4]), (l3, eI (ty 0) 8 v9_3)]) C hP hD hS 1 rfl b rfl (by omega) (by decide) rfl d_X2_pinchedBy_141 (fun H locs hP hD hS => ?_)
    refine lv_iload_n hx hb d_X2_pinchedBy_142 rfl (lv_at hl 1 rfl) ?_
    exact ret_I (w := [(h0, eO 2 [.ref ho, .ref l1, .ref l2, .ref l3, .ref l4]), (ho, eO 0 [.int 0, .int 1, .int 0, .int 0, .int 0, .int 0, .int 0, .int 0, .int 0, .int 0, .ref g1, .ref g2, .ref g3]), (l1, eI (ty 0) 1000 (upd f b 1)), (l3, eI (ty 0) 8 v9_3)]) C hP hD hS [2, 0, 1, 3] rfl rfl ⟨(upd f b 1), v9_3, (B01_u hf b), rfl, rfl⟩ (by decide) (by decide) d_X2_pinchedBy_143
  · refine lv_aload_n hx hb d_X2_pinchedBy_22 rfl (lv_at hl 0 rfl) ?_
    refine r_get (v := .ref l1) C hP 0 rfl rfl lay_X2 1 (by decide) k_389 rfl d_X2_pinchedBy_23 ?_
    refine lv_iload_n hx hb d_X2_pinchedBy_26 rfl (lv_at hl 1 rfl) ?_
    refine r_iald (v := (f b)) C hP 2 rfl b rfl (by omega) (by decide) rfl d_X2_pinchedBy_27 ?_
    refine lv_iconst (v := 1) hx hb d_X2_pinchedBy_28 (by decide) ?_
    refine r_isub (z := ((f b) - 1)) C d_X2_pinchedBy_29 rfl ?_
    exact ret_I (w := [(h0, eO 2 [.ref ho, .ref l1, .ref l2, .ref l3, .ref l4]), (ho, eO 0 [.int 0, .int 1, .int 0, .int 0, .int 0, .int 0, .int 0, .int 0, .int 0, .int 0, .ref g1, .ref g2, .ref g3]), (l1, eI (ty 0) 1000 f), (l3, eI (ty 0) 8 v)]) C hP hD hS [0, 1, 2, 3] rfl rfl ⟨f, v, hf, (Eq.symm (B01_m hf hc_1)), rfl⟩ (by decide) (by decide) d_X2_pinchedBy_30
set_option maxHeartbeats 4000000 in
set_option maxRecDepth 100000 in
theorem c_speak (l : Launch) (D : va_G) (ty : Nat → ClassId) (k : Int32) : CC l D ty ⟨"PinchedBill$Laws", "speaker", "(II)I"⟩ prog_4_method_10_code 4 (some .int) 0 0 0 0 [.int 0, .int k] [] (QI D ty (fun (r : Int32) (w : va_W) => (-1) = r ∧ w = [])) := by
  refine CC_of (by decide) ?_
  intro p e s m below meth c A C hP hD hS
  obtain ⟨⟨hx, hb, hml, hown, hts⟩, hr, hlocks, hnm, hK, hE, hA, hZ⟩ := id C
  refine startW [.int 0, .int k] 4 (nle rfl) (lv := [(0, .int 0), (1, .int k)]) rfl (fun ls hl => ?_)
  refine lv_iload_n hx hb d_X2_speaker_0 rfl (lv_at hl 0 rfl) ?_
  refine b_if_neF C 6 d_X2_speaker_1 (by decide) (by decide) ?_
  refine lv_iconst (v := (-1)) hx hb d_X2_speaker_4 (by decide) ?_
  exact ret_I (w := []) C hP hD hS [] rfl rfl ⟨rfl, rfl⟩ (by decide) (by decide) d_X2_speaker_5
set_option maxHeartbeats 4000000 in
set_option maxRecDepth 100000 in
theorem c_isLaw (l : Launch) (D : va_G) (ty : Nat → ClassId) (h0 : Nat) (ho : Nat) (l1 : Nat) (l2 : Nat) (l3 : Nat) (l4 : Nat) (g1 : Nat) (g2 : Nat) (g3 : Nat) (f : Nat → Int32) (v : Nat → Int32) (b : Nat) (hbd : b < 1000) (hf : B01 f) : CC l D ty ⟨"PinchedBill$Laws", "isLaw", "(II)Z"⟩ prog_4_method_11_code 3 (some .boolean) 3 67 0 0 [.ref h0, .int (nI b), .int 0] [(h0, eO 2 [.ref ho, .ref l1, .ref l2, .ref l3, .ref l4]), (ho, eO 0 [.int 0, .int 1, .int 0, .int 0, .int 0, .int 0, .int 0, .int 0, .int 0, .int 0, .ref g1, .ref g2, .ref g3]), (l1, eI (ty 0) 1000 f), (l3, eI (ty 0) 8 v)] (QI D ty (fun (r : Int32) (w : va_W) => ∃ (f9 : Nat → Int32) (v9 : Nat → Int32), (B01 f9) ∧ 1 = r ∧ w = [(h0, eO 2 [.ref ho, .ref l1, .ref l2, .ref l3, .ref l4]), (ho, eO 0 [.int 0, .int 1, .int 0, .int 0, .int 0, .int 0, .int 0, .int 0, .int 0, .int 0, .ref g1, .ref g2, .ref g3]), (l1, eI (ty 0) 1000 f9), (l3, eI (ty 0) 8 v9)])) := by
  refine CC_of (by decide) ?_
  intro p e s m below meth c A C hP hD hS
  obtain ⟨⟨hx, hb, hml, hown, hts⟩, hr, hlocks, hnm, hK, hE, hA, hZ⟩ := id C
  refine startW [.ref h0, .int (nI b), .int 0] 3 (nle rfl) (lv := [(0, .ref h0), (1, .int (nI b)), (2, .int 0)]) rfl (fun ls hl => ?_)
  refine lv_aload_n hx hb d_X2_isLaw_0 rfl (lv_at hl 0 rfl) ?_
  refine lv_iload_n hx hb d_X2_isLaw_1 rfl (lv_at hl 1 rfl) ?_
  have ct_1 : Cut [(h0, eO 2 [.ref ho, .ref l1, .ref l2, .ref l3, .ref l4]), (ho, eO 0 [.int 0, .int 1, .int 0, .int 0, .int 0, .int 0, .int 0, .int 0, .int 0, .int 0, .ref g1, .ref g2, .ref g3]), (l1, eI (ty 0) 1000 f), (l3, eI (ty 0) 8 v)] [(h0, eO 2 [.ref ho, .ref l1, .ref l2, .ref l3, .ref l4]), (ho, eO 0 [.int 0, .int 1, .int 0, .int 0, .int 0, .int 0, .int 0, .int 0, .int 0, .int 0, .ref g1, .ref g2, .ref g3]), (l1, eI (ty 0) 1000 f), (l3, eI (ty 0) 8 v)] [] [0, 1, 2, 3] [] := ⟨rfl, rfl, rfl, rfl, by decide⟩
  refine cont_I C hP hD hS ct_1 (run_V (As := [.int (nI b)]) (rest := []) C hP hD hS ct_1 (c_pin l D ty h0 ho l1 l2 l3 l4 g1 g2 g3 f v b hbd hf) kV_PinchedBill_Laws_116 0 rfl rfl rfl rfl hl.1 rfl (nle rfl) d_X2_isLaw_2 ⟨by decide, by decide, by decide, by decide⟩) (fun r_5 w_6 H locs hw_4 hP hD hS => ?_)
  obtain ⟨f9_2, v9_3, hf9_7, rfl, rfl⟩ := hw_4
  have hP : va_P D vwCl [(h0, eO 2 [.ref ho, .ref l1, .ref l2, .ref l3, .ref l4]), (ho, eO 0 [.int 0, .int 1, .int 0, .int 0, .int 0, .int 0, .int 0, .int 0, .int 0, .int 0, .ref g1, .ref g2, .ref g3]), (l1, eI (ty 0) 1000 f9_2), (l3, eI (ty 0) 8 v9_3)] H := hP
  have hD : va_D A [(h0, eO 2 [.ref ho, .ref l1, .ref l2, .ref l3, .ref l4]), (ho, eO 0 [.int 0, .int 1, .int 0, .int 0, .int 0, .int 0, .int 0, .int 0, .int 0, .int 0, .ref g1, .ref g2, .ref g3]), (l1, eI (ty 0) 1000 f9_2), (l3, eI (ty 0) 8 v9_3)] := hD
  refine lv_iload_n hx hb d_X2_isLaw_5 rfl (lv_at hl 2 rfl) ?_
  refine r_iand (z := 0) C d_X2_isLaw_6 (by decide) ?_
  refine b_if_neF C 14 d_X2_isLaw_7 (by decide) (by decide) ?_
  refine lv_iconst (v := 1) hx hb d_X2_isLaw_10 (by decide) ?_
  refine lv_goto (tgt := 15) hx hb d_X2_isLaw_11 (by decide) ?_
  exact ret_Z (w := [(h0, eO 2 [.ref ho, .ref l1, .ref l2, .ref l3, .ref l4]), (ho, eO 0 [.int 0, .int 1, .int 0, .int 0, .int 0, .int 0, .int 0, .int 0, .int 0, .int 0, .ref g1, .ref g2, .ref g3]), (l1, eI (ty 0) 1000 f9_2), (l3, eI (ty 0) 8 v9_3)]) C rfl hP hD hS [0, 1, 2, 3] rfl rfl ⟨f9_2, v9_3, hf9_7, rfl, rfl⟩ (by decide) (by decide) d_X2_isLaw_15
set_option maxHeartbeats 4000000 in
set_option maxRecDepth 100000 in
theorem c_step (l : Launch) (D : va_G) (ty : Nat → ClassId) (h0 : Nat) (ho : Nat) (l1 : Nat) (l2 : Nat) (l3 : Nat) (l4 : Nat) (g1 : Nat) (g2 : Nat) (g3 : Nat) (x0 : Nat) (f : Nat → Int32) (v : Nat → Int32) (b : Nat) (k : Int32) (hbd : b < 1000) (hf : B01 f) : CC l D ty ⟨"PinchedBill$Laws", "step", "(LPinchedBill$Walk;I)I"⟩ prog_4_method_12_code 4 (some .int) 3 67 0 0 [.ref h0, .ref x0, .int 0] [(h0, eO 2 [.ref ho, .ref l1, .ref l2, .ref l3, .ref l4]), (ho, eO 0 [.int 0, .int 1, .int 0, .int 0, .int 0, .int 0, .int 0, .int 0, .int 0, .int 0, .ref g1, .ref g2, .ref g3]), (l1, eI (ty 0) 1000 f), (l3, eI (ty 0) 8 v), (x0, eO 7 [.int (nI b), .int k])] (QI D ty (fun (r : Int32) (w : va_W) => ∃ (f9 : Nat → Int32) (v9 : Nat → Int32), (B01 f9) ∧ (-1) = r ∧ w = [(h0, eO 2 [.ref ho, .ref l1, .ref l2, .ref l3, .ref l4]), (ho, eO 0 [.int 0, .int 1, .int 0, .int 0, .int 0, .int 0, .int 0, .int 0, .int 0, .int 0, .ref g1, .ref g2, .ref g3]), (l1, eI (ty 0) 1000 f9), (l3, eI (ty 0) 8 v9), (x0, eO 7 [.int (nI b), .int k])])) := by
  refine CC_of (by decide) ?_
  intro p e s m below meth c A C hP hD hS
  obtain ⟨⟨hx, hb, hml, hown, hts⟩, hr, hlocks, hnm, hK, hE, hA, hZ⟩ := id C
  refine startW [.ref h0, .ref x0, .int 0] 4 (nle rfl) (lv := [(0, .ref h0), (1, .ref x0), (2, .int 0)]) rfl (fun ls hl => ?_)
  refine lv_aload_n hx hb d_X2_step_0 rfl (lv_at hl 0 rfl) ?_
  refine lv_aload_n hx hb d_X2_step_1 rfl (lv_at hl 1 rfl) ?_
  refine r_get (v := .int (nI b)) C hP 4 rfl rfl lay_X7 0 (by decide) k_283 rfl d_X2_step_2 ?_
  have ct_1 : Cut [(h0, eO 2 [.ref ho, .ref l1, .ref l2, .ref l3, .ref l4]), (ho, eO 0 [.int 0, .int 1, .int 0, .int 0, .int 0, .int 0, .int 0, .int 0, .int 0, .int 0, .ref g1, .ref g2, .ref g3]), (l1, eI (ty 0) 1000 f), (l3, eI (ty 0) 8 v), (x0, eO 7 [.int (nI b), .int k])] [(h0, eO 2 [.ref ho, .ref l1, .ref l2, .ref l3, .ref l4]), (ho, eO 0 [.int 0, .int 1, .int 0, .int 0, .int 0, .int 0, .int 0, .int 0, .int 0, .int 0, .ref g1, .ref g2, .ref g3]), (l1, eI (ty 0) 1000 f), (l3, eI (ty 0) 8 v)] [(x0, eO 7 [.int (nI b), .int k])] [0, 1, 2, 3] [4] := ⟨rfl, rfl, rfl, rfl, by decide⟩
  refine cont_I C hP hD hS ct_1 (run_V (As := [.int (nI b)]) (rest := []) C hP hD hS ct_1 (c_pin l D ty h0 ho l1 l2 l3 l4 g1 g2 g3 f v b hbd hf) kV_PinchedBill_Laws_116 0 rfl rfl rfl rfl hl.1 rfl (nle rfl) d_X2_step_5 ⟨by decide, by decide, by decide, by decide⟩) (fun r_5 w_6 H locs hw_4 hP hD hS => ?_)
  obtain ⟨f9_2, v9_3, hf9_7, rfl, rfl⟩ := hw_4
  have hP : va_P D vwCl [(x0, eO 7 [.int (nI b), .int k]), (h0, eO 2 [.ref ho, .ref l1, .ref l2, .ref l3, .ref l4]), (ho, eO 0 [.int 0, .int 1, .int 0, .int 0, .int 0, .int 0, .int 0, .int 0, .int 0, .int 0, .ref g1, .ref g2, .ref g3]), (l1, eI (ty 0) 1000 f9_2), (l3, eI (ty 0) 8 v9_3)] H := hP
  have hD : va_D A [(x0, eO 7 [.int (nI b), .int k]), (h0, eO 2 [.ref ho, .ref l1, .ref l2, .ref l3, .ref l4]), (ho, eO 0 [.int 0, .int 1, .int 0, .int 0, .int 0, .int 0, .int 0, .int 0, .int 0, .int 0, .ref g1, .ref g2, .ref g3]), (l1, eI (ty 0) 1000 f9_2), (l3, eI (ty 0) 8 v9_3)] := hD
  refine lv_iload_n hx hb d_X2_step_8 rfl (lv_at hl 2 rfl) ?_
  refine r_iand (z := 0) C d_X2_step_9 (by decide) ?_
  refine lv_aload_n hx hb d_X2_step_10 rfl (lv_at hl 1 rfl) ?_
  refine r_get (v := .int k) C hP 0 rfl rfl lay_X7 1 (by decide) k_288 rfl d_X2_step_11 ?_
  have ct_8 : Cut [(x0, eO 7 [.int (nI b), .int k]), (h0, eO 2 [.ref ho, .ref l1, .ref l2, .ref l3, .ref l4]), (ho, eO 0 [.int 0, .int 1, .int 0, .int 0, .int 0, .int 0, .int 0, .int 0, .int 0, .int 0, .ref g1, .ref g2, .ref g3]), (l1, eI (ty 0) 1000 f9_2), (l3, eI (ty 0) 8 v9_3)] [] [(x0, eO 7 [.int (nI b), .int k]), (h0, eO 2 [.ref ho, .ref l1, .ref l2, .ref l3, .ref l4]), (ho, eO 0 [.int 0, .int 1, .int 0, .int 0, .int 0, .int 0, .int 0, .int 0, .int 0, .int 0, .ref g1, .ref g2, .ref g3]), (l1, eI (ty 0) 1000 f9_2), (l3, eI (ty 0) 8 v9_3)] [] [0, 1, 2, 3, 4] := ⟨rfl, rfl, rfl, rfl, by decide⟩
  refine cont_I C hP hD hS ct_8 (run_S (As := [.int 0, .int k]) (rest := []) C hP hD hS ct_8 (c_speak l D ty k) kS_PinchedBill_Laws_127 rfl hl.1 rfl (nle rfl) d_X2_step_14 ⟨by decide, by decide, by decide, by decide⟩) (fun r_10 w_11 H locs hw_9 hP hD hS => ?_)
  obtain ⟨rfl, rfl⟩ := hw_9
  have hP : va_P D vwCl [(x0, eO 7 [.int (nI b), .int k]), (h0, eO 2 [.ref ho, .ref l1, .ref l2, .ref l3, .ref l4]), (ho, eO 0 [.int 0, .int 1, .int 0, .int 0, .int 0, .int 0, .int 0, .int 0, .int 0, .int 0, .ref g1, .ref g2, .ref g3]), (l1, eI (ty 0) 1000 f9_2), (l3, eI (ty 0) 8 v9_3)] H := hP
  have hD : va_D A [(x0, eO 7 [.int (nI b), .int k]), (h0, eO 2 [.ref ho, .ref l1, .ref l2, .ref l3, .ref l4]), (ho, eO 0 [.int 0, .int 1, .int 0, .int 0, .int 0, .int 0, .int 0, .int 0, .int 0, .int 0, .ref g1, .ref g2, .ref g3]), (l1, eI (ty 0) 1000 f9_2), (l3, eI (ty 0) 8 v9_3)] := hD
  refine lv_istore_n (lv' := [(3, .int (-1)), (0, .ref h0), (1, .ref x0), (2, .int 0)]) hx hb d_X2_step_17 rfl hl (by decide) rfl (fun ls hl => ?_)
  refine lv_iload_n hx hb d_X2_step_18 rfl (lv_at hl 0 rfl) ?_
  refine lv_iconst (v := (-1)) hx hb d_X2_step_19 (by decide) ?_
  refine b_icmp_eqT C 41 d_X2_step_20 (by decide) (by decide) ?_
  refine lv_iload_n hx hb d_X2_step_41 rfl (lv_at hl 0 rfl) ?_
  exact ret_I (w := [(h0, eO 2 [.ref ho, .ref l1, .ref l2, .ref l3, .ref l4]), (ho, eO 0 [.int 0, .int 1, .int 0, .int 0, .int 0, .int 0, .int 0, .int 0, .int 0, .int 0, .ref g1, .ref g2, .ref g3]), (l1, eI (ty 0) 1000 f9_2), (l3, eI (ty 0) 8 v9_3), (x0, eO 7 [.int (nI b), .int k])]) C hP hD hS [1, 2, 3, 4, 0] rfl rfl ⟨f9_2, v9_3, hf9_7, rfl, rfl⟩ (by decide) (by decide) d_X2_step_42
set_option maxHeartbeats 4000000 in
set_option maxRecDepth 100000 in
theorem c_stepOften (l : Launch) (D : va_G) (ty : Nat → ClassId) (h0 : Nat) (ho : Nat) (l1 : Nat) (l2 : Nat) (l3 : Nat) (l4 : Nat) (g1 : Nat) (g2 : Nat) (g3 : Nat) (x0 : Nat) (f : Nat → Int32) (v : Nat → Int32) (b : Nat) (k : Int32) (n : Int32) (hbd : b < 1000) (hf : B01 f) : CC l D ty ⟨"PinchedBill$Laws", "stepOften", "(LPinchedBill$Walk;II)I"⟩ prog_4_method_13_code 5 (some .int) 4 90 0 0 [.ref h0, .ref x0, .int n, .int 0] [(h0, eO 2 [.ref ho, .ref l1, .ref l2, .ref l3, .ref l4]), (ho, eO 0 [.int 0, .int 1, .int 0, .int 0, .int 0, .int 0, .int 0, .int 0, .int 0, .int 0, .ref g1, .ref g2, .ref g3]), (l1, eI (ty 0) 1000 f), (l3, eI (ty 0) 8 v), (x0, eO 7 [.int (nI b), .int k])] (QI D ty (fun (r : Int32) (w : va_W) => ∃ (f9 : Nat → Int32) (v9 : Nat → Int32), (B01 f9) ∧ 0 = r ∧ w = [(h0, eO 2 [.ref ho, .ref l1, .ref l2, .ref l3, .ref l4]), (ho, eO 0 [.int 0, .int 1, .int 0, .int 0, .int 0, .int 0, .int 0, .int 0, .int 0, .int 0, .ref g1, .ref g2, .ref g3]), (l1, eI (ty 0) 1000 f9), (l3, eI (ty 0) 8 v9), (x0, eO 7 [.int (nI b), .int k])])) := by
  refine CC_of (by decide) ?_
  intro p e s m below meth c A C hP hD hS
  obtain ⟨⟨hx, hb, hml, hown, hts⟩, hr, hlocks, hnm, hK, hE, hA, hZ⟩ := id C
  refine startW [.ref h0, .ref x0, .int n, .int 0] 5 (nle rfl) (lv := [(0, .ref h0), (1, .ref x0), (2, .int n), (3, .int 0)]) rfl (fun ls hl => ?_)
  refine lv_iconst (v := 0) hx hb d_X2_stepOften_0 (by decide) ?_
  refine lv_istore (lv' := [(4, .int 0), (0, .ref h0), (1, .ref x0), (2, .int n), (3, .int 0)]) hx hb d_X2_stepOften_1 hl (by decide) rfl (fun ls hl => ?_)
  refine lv_iload hx hb d_X2_stepOften_3 (lv_at hl 0 rfl) ?_
  refine lv_iload_n hx hb d_X2_stepOften_5 rfl (lv_at hl 3 rfl) ?_
  refine lv_icmp_ge (tgt := 25) hx hb d_X2_stepOften_6 (by decide) (fun hc_1 => ?_) (fun hc_1 => ?_)
  · refine lv_iload hx hb d_X2_stepOften_25 (lv_at hl 0 rfl) ?_
    exact ret_I (w := [(h0, eO 2 [.ref ho, .ref l1, .ref l2, .ref l3, .ref l4]), (ho, eO 0 [.int 0, .int 1, .int 0, .int 0, .int 0, .int 0, .int 0, .int 0, .int 0, .int 0, .ref g1, .ref g2, .ref g3]), (l1, eI (ty 0) 1000 f), (l3, eI (ty 0) 8 v), (x0, eO 7 [.int (nI b), .int k])]) C hP hD hS [0, 1, 2, 3, 4] rfl rfl ⟨f, v, hf, rfl, rfl⟩ (by decide) (by decide) d_X2_stepOften_27
  · refine lv_aload_n hx hb d_X2_stepOften_9 rfl (lv_at hl 1 rfl) ?_
    refine lv_aload_n hx hb d_X2_stepOften_10 rfl (lv_at hl 2 rfl) ?_
    refine lv_iload_n hx hb d_X2_stepOften_11 rfl (lv_at hl 4 rfl) ?_
    have ct_2 : Cut [(h0, eO 2 [.ref ho, .ref l1, .ref l2, .ref l3, .ref l4]), (ho, eO 0 [.int 0, .int 1, .int 0, .int 0, .int 0, .int 0, .int 0, .int 0, .int 0, .int 0, .ref g1, .ref g2, .ref g3]), (l1, eI (ty 0) 1000 f), (l3, eI (ty 0) 8 v), (x0, eO 7 [.int (nI b), .int k])] [(h0, eO 2 [.ref ho, .ref l1, .ref l2, .ref l3, .ref l4]), (ho, eO 0 [.int 0, .int 1, .int 0, .int 0, .int 0, .int 0, .int 0, .int 0, .int 0, .int 0, .ref g1, .ref g2, .ref g3]), (l1, eI (ty 0) 1000 f), (l3, eI (ty 0) 8 v), (x0, eO 7 [.int (nI b), .int k])] [] [0, 1, 2, 3, 4] [] := ⟨rfl, rfl, rfl, rfl, by decide⟩
    refine cont_I C hP hD hS ct_2 (run_V (As := [.ref x0, .int 0]) (rest := []) C hP hD hS ct_2 (c_step l D ty h0 ho l1 l2 l3 l4 g1 g2 g3 x0 f v b k hbd hf) kV_PinchedBill_Laws_133 0 rfl rfl rfl rfl hl.1 rfl (nle rfl) d_X2_stepOften_12 ⟨by decide, by decide, by decide, by decide⟩) (fun r_6 w_7 H locs hw_5 hP hD hS => ?_)
    obtain ⟨f9_3, v9_4, hf9_8, rfl, rfl⟩ := hw_5
    have hP : va_P D vwCl [(h0, eO 2 [.ref ho, .ref l1, .ref l2, .ref l3, .ref l4]), (ho, eO 0 [.int 0, .int 1, .int 0, .int 0, .int 0, .int 0, .int 0, .int 0, .int 0, .int 0, .ref g1, .ref g2, .ref g3]), (l1, eI (ty 0) 1000 f9_3), (l3, eI (ty 0) 8 v9_4), (x0, eO 7 [.int (nI b), .int k])] H := hP
    have hD : va_D A [(h0, eO 2 [.ref ho, .ref l1, .ref l2, .ref l3, .ref l4]), (ho, eO 0 [.int 0, .int 1, .int 0, .int 0, .int 0, .int 0, .int 0, .int 0, .int 0, .int 0, .ref g1, .ref g2, .ref g3]), (l1, eI (ty 0) 1000 f9_3), (l3, eI (ty 0) 8 v9_4), (x0, eO 7 [.int (nI b), .int k])] := hD
    refine lv_iconst (v := (-1)) hx hb d_X2_stepOften_15 (by decide) ?_
    refine b_icmp_eqT C 25 d_X2_stepOften_16 (by decide) (by decide) ?_
    refine lv_iload hx hb d_X2_stepOften_25 (lv_at hl 0 rfl) ?_
    exact ret_I (w := [(h0, eO 2 [.ref ho, .ref l1, .ref l2, .ref l3, .ref l4]), (ho, eO 0 [.int 0, .int 1, .int 0, .int 0, .int 0, .int 0, .int 0, .int 0, .int 0, .int 0, .ref g1, .ref g2, .ref g3]), (l1, eI (ty 0) 1000 f9_3), (l3, eI (ty 0) 8 v9_4), (x0, eO 7 [.int (nI b), .int k])]) C hP hD hS [0, 1, 2, 3, 4] rfl rfl ⟨f9_3, v9_4, hf9_8, rfl, rfl⟩ (by decide) (by decide) d_X2_stepOften_27
set_option maxHeartbeats 4000000 in
set_option maxRecDepth 100000 in
theorem c_start (l : Launch) (D : va_G) (ty : Nat → ClassId) (h0 : Nat) (b0 : Int32) (k : Int32) (b : Int32) : CC l D ty ⟨"PinchedBill$Walk", "start", "(I)V"⟩ prog_9_method_2_code 2 none 0 0 0 0 [.ref h0, .int b] [(h0, eO 7 [.int b0, .int k])] (QV D ty (fun (w : va_W) => w = [(h0, eO 7 [.int b, .int (-1)])])) := by
  refine CC_of (by decide) ?_
  intro p e s m below meth c A C hP hD hS
  obtain ⟨⟨hx, hb, hml, hown, hts⟩, hr, hlocks, hnm, hK, hE, hA, hZ⟩ := id C
  refine startW [.ref h0, .int b] 2 (nle rfl) (lv := [(0, .ref h0), (1, .int b)]) rfl (fun ls hl => ?_)
  refine lv_aload_n hx hb d_X7_start_0 rfl (lv_at hl 0 rfl) ?_
  refine lv_iload_n hx hb d_X7_start_1 rfl (lv_at hl 1 rfl) ?_
  refine r_put (w := [(h0, eO 7 [.int b, .int k])]) C hP hD hS 0 rfl rfl lay_X7 tok_X7 nmo_X7 0 (by decide) k_279 rfl rfl rfl (nle rfl) rfl d_X7_start_2 (fun H locs hP hD hS => ?_)
  refine lv_aload_n hx hb d_X7_start_5 rfl (lv_at hl 0 rfl) ?_
  refine lv_iconst (v := (-1)) hx hb d_X7_start_6 (by decide) ?_
  refine r_put (w := [(h0, eO 7 [.int b, .int (-1)])]) C hP hD hS 0 rfl rfl lay_X7 tok_X7 nmo_X7 1 (by decide) k_284 rfl rfl rfl (nle rfl) rfl d_X7_start_7 (fun H locs hP hD hS => ?_)
  exact ret_V (w := [(h0, eO 7 [.int b, .int (-1)])]) C hP hD hS [0] rfl rfl rfl (by decide) (by decide) d_X7_start_10

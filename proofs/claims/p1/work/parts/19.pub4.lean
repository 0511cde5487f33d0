theorem d_X8_whyNot_0 : decode prog_1_method_62_code 0 = .ok (.lload_n 2, 1) := by decide +kernel
theorem k_528 : Cond.constantLong "PinchedBill" 243 (-1) ∈ gd_tbl := gd_in 528 (by decide +kernel) (by decide +kernel)
theorem d_X8_whyNot_1 : decode prog_1_method_62_code 1 = .ok (.ldc2_w 243, 3) := by decide +kernel
theorem d_X8_whyNot_4 : decode prog_1_method_62_code 4 = .ok (.lcmp, 1) := by decide +kernel
theorem d_X8_whyNot_5 : decode prog_1_method_62_code 5 = .ok (.ifCond .ne 5, 3) := by decide +kernel
theorem d_X8_whyNot_8 : decode prog_1_method_62_code 8 = .ok (.iconst 0, 1) := by decide +kernel
theorem d_X8_whyNot_9 : decode prog_1_method_62_code 9 = .ok (.ireturn, 1) := by decide +kernel
theorem d_X8_whyNot_10 : decode prog_1_method_62_code 10 = .ok (.lload_n 2, 1) := by decide +kernel
theorem d_X8_whyNot_11 : decode prog_1_method_62_code 11 = .ok (.lconst 0, 1) := by decide +kernel
theorem d_X8_whyNot_12 : decode prog_1_method_62_code 12 = .ok (.lcmp, 1) := by decide +kernel
theorem d_X8_whyNot_13 : decode prog_1_method_62_code 13 = .ok (.ifCond .lt 11, 3) := by decide +kernel
theorem d_X8_whyNot_16 : decode prog_1_method_62_code 16 = .ok (.lload_n 2, 1) := by decide +kernel
theorem k_529 : Cond.constantLong "PinchedBill" 361 3000 ∈ gd_tbl := gd_in 529 (by decide +kernel) (by decide +kernel)
theorem d_X8_whyNot_17 : decode prog_1_method_62_code 17 = .ok (.ldc2_w 361, 3) := by decide +kernel
theorem d_X8_whyNot_20 : decode prog_1_method_62_code 20 = .ok (.lcmp, 1) := by decide +kernel
theorem d_X8_whyNot_21 : decode prog_1_method_62_code 21 = .ok (.ifCond .lt 5, 3) := by decide +kernel
theorem d_X8_whyNot_26 : decode prog_1_method_62_code 26 = .ok (.lload_n 2, 1) := by decide +kernel
theorem d_X8_whyNot_27 : decode prog_1_method_62_code 27 = .ok (.l2i, 1) := by decide +kernel
theorem d_X8_whyNot_28 : decode prog_1_method_62_code 28 = .ok (.istore 4, 2) := by decide +kernel
theorem d_X8_whyNot_30 : decode prog_1_method_62_code 30 = .ok (.iload 4, 2) := by decide +kernel
theorem d_X8_whyNot_32 : decode prog_1_method_62_code 32 = .ok (.sipush 1000, 3) := by decide +kernel
theorem d_X8_whyNot_35 : decode prog_1_method_62_code 35 = .ok (.if_icmp .ge 21, 3) := by decide +kernel
theorem d_X8_whyNot_38 : decode prog_1_method_62_code 38 = .ok (.aload_n 0, 1) := by decide +kernel
theorem d_X8_whyNot_39 : decode prog_1_method_62_code 39 = .ok (.getfield 19, 3) := by decide +kernel
theorem d_X8_whyNot_42 : decode prog_1_method_62_code 42 = .ok (.iload 4, 2) := by decide +kernel
theorem d_X8_whyNot_44 : decode prog_1_method_62_code 44 = .ok (.invokevirtual 325, 3) := by decide +kernel
theorem d_X8_whyNot_47 : decode prog_1_method_62_code 47 = .ok (.ifCond .eq 7, 3) := by decide +kernel
theorem d_X8_whyNot_54 : decode prog_1_method_62_code 54 = .ok (.iconst 1, 1) := by decide +kernel
theorem d_X8_whyNot_55 : decode prog_1_method_62_code 55 = .ok (.ireturn, 1) := by decide +kernel
theorem d_X8_whyNot_50 : decode prog_1_method_62_code 50 = .ok (.iconst 0, 1) := by decide +kernel
theorem d_X8_whyNot_51 : decode prog_1_method_62_code 51 = .ok (.goto 4, 3) := by decide +kernel
theorem d_X8_whyNot_56 : decode prog_1_method_62_code 56 = .ok (.iload 4, 2) := by decide +kernel
theorem d_X8_whyNot_58 : decode prog_1_method_62_code 58 = .ok (.sipush 2000, 3) := by decide +kernel
theorem d_X8_whyNot_61 : decode prog_1_method_62_code 61 = .ok (.if_icmp .ge 7, 3) := by decide +kernel
theorem d_X8_whyNot_68 : decode prog_1_method_62_code 68 = .ok (.iconst 0, 1) := by decide +kernel
theorem d_X8_whyNot_69 : decode prog_1_method_62_code 69 = .ok (.istore 5, 2) := by decide +kernel
theorem d_X8_whyNot_71 : decode prog_1_method_62_code 71 = .ok (.iload 5, 2) := by decide +kernel
theorem d_X8_whyNot_73 : decode prog_1_method_62_code 73 = .ok (.ifCond .eq 12, 3) := by decide +kernel
theorem d_X8_whyNot_85 : decode prog_1_method_62_code 85 = .ok (.iload 4, 2) := by decide +kernel
theorem d_X8_whyNot_87 : decode prog_1_method_62_code 87 = .ok (.sipush 2000, 3) := by decide +kernel
theorem d_X8_whyNot_90 : decode prog_1_method_62_code 90 = .ok (.isub, 1) := by decide +kernel
theorem d_X8_whyNot_91 : decode prog_1_method_62_code 91 = .ok (.istore 6, 2) := by decide +kernel
theorem d_X8_whyNot_93 : decode prog_1_method_62_code 93 = .ok (.iload 6, 2) := by decide +kernel
theorem d_X8_whyNot_95 : decode prog_1_method_62_code 95 = .ok (.aload_n 0, 1) := by decide +kernel
theorem d_X8_whyNot_96 : decode prog_1_method_62_code 96 = .ok (.getfield 19, 3) := by decide +kernel
theorem d_X8_whyNot_99 : decode prog_1_method_62_code 99 = .ok (.getfield 224, 3) := by decide +kernel
theorem d_X8_whyNot_102 : decode prog_1_method_62_code 102 = .ok (.if_icmp .lt 5, 3) := by decide +kernel
theorem d_X8_whyNot_105 : decode prog_1_method_62_code 105 = .ok (.iconst 1, 1) := by decide +kernel
theorem d_X8_whyNot_106 : decode prog_1_method_62_code 106 = .ok (.ireturn, 1) := by decide +kernel
theorem d_X8_whyNot_64 : decode prog_1_method_62_code 64 = .ok (.iconst 1, 1) := by decide +kernel
theorem d_X8_whyNot_65 : decode prog_1_method_62_code 65 = .ok (.goto 4, 3) := by decide +kernel
theorem d_X8_whyNot_76 : decode prog_1_method_62_code 76 = .ok (.iload 4, 2) := by decide +kernel
theorem d_X8_whyNot_78 : decode prog_1_method_62_code 78 = .ok (.sipush 1000, 3) := by decide +kernel
theorem d_X8_whyNot_81 : decode prog_1_method_62_code 81 = .ok (.isub, 1) := by decide +kernel
theorem d_X8_whyNot_82 : decode prog_1_method_62_code 82 = .ok (.goto 9, 3) := by decide +kernel
theorem d_X8_whyNotDone_0 : decode prog_1_method_63_code 0 = .ok (.aload_n 0, 1) := by decide +kernel
theorem d_X8_whyNotDone_1 : decode prog_1_method_63_code 1 = .ok (.aload_n 1, 1) := by decide +kernel
theorem d_X8_whyNotDone_2 : decode prog_1_method_63_code 2 = .ok (.lload_n 2, 1) := by decide +kernel
theorem k_527 : Cond.code ⟨"PinchedBill", "whyNot", "(LPinchedBill$Standing;J)I"⟩ prog_1_method_62_code 8 (some .int) ∈ gd_tbl := gd_in 527 (by decide +kernel) (by decide +kernel)
theorem k_524 : Cond.methodLink "PinchedBill" 163 ⟨"PinchedBill", "whyNot", "(LPinchedBill$Standing;J)I"⟩ ∈ gd_tbl := gd_in 524 (by decide +kernel) (by decide +kernel)
theorem k_526 : Cond.instanceMethod ⟨"PinchedBill", "whyNot", "(LPinchedBill$Standing;J)I"⟩ ∈ gd_tbl := gd_in 526 (by decide +kernel) (by decide +kernel)
theorem k_6 : Cond.selects "PinchedBill" ⟨"PinchedBill", "whyNot", "(LPinchedBill$Standing;J)I"⟩ ⟨"PinchedBill", "whyNot", "(LPinchedBill$Standing;J)I"⟩ ∈ gd_tbl := gd_in 6 (by decide +kernel) (by decide +kernel)
theorem kV_PinchedBill_163 : kV "PinchedBill" 163 ⟨"PinchedBill", "whyNot", "(LPinchedBill$Standing;J)I"⟩ prog_1_method_62_code 8 (some .int) 2 := ⟨k_524, k_526, k_6, k_117, k_527, by decide, by decide, by decide +kernel⟩
theorem d_X8_whyNotDone_3 : decode prog_1_method_63_code 3 = .ok (.invokevirtual 163, 3) := by decide +kernel
theorem d_X8_whyNotDone_6 : decode prog_1_method_63_code 6 = .ok (.istore 4, 2) := by decide +kernel
theorem d_X8_whyNotDone_8 : decode prog_1_method_63_code 8 = .ok (.iload 4, 2) := by decide +kernel
theorem d_X8_whyNotDone_10 : decode prog_1_method_63_code 10 = .ok (.ifCond .eq 6, 3) := by decide +kernel
theorem d_X8_whyNotDone_13 : decode prog_1_method_63_code 13 = .ok (.iload 4, 2) := by decide +kernel
theorem d_X8_whyNotDone_15 : decode prog_1_method_63_code 15 = .ok (.ireturn, 1) := by decide +kernel
theorem d_X8_whyNotDone_16 : decode prog_1_method_63_code 16 = .ok (.lload_n 2, 1) := by decide +kernel
theorem d_X8_whyNotDone_17 : decode prog_1_method_63_code 17 = .ok (.l2i, 1) := by decide +kernel
theorem d_X8_whyNotDone_18 : decode prog_1_method_63_code 18 = .ok (.istore 5, 2) := by decide +kernel
theorem d_X8_whyNotDone_20 : decode prog_1_method_63_code 20 = .ok (.aload_n 1, 1) := by decide +kernel
theorem d_X8_whyNotDone_21 : decode prog_1_method_63_code 21 = .ok (.invokevirtual 125, 3) := by decide +kernel
theorem d_X8_whyNotDone_24 : decode prog_1_method_63_code 24 = .ok (.iload 5, 2) := by decide +kernel
theorem d_X8_whyNotDone_26 : decode prog_1_method_63_code 26 = .ok (.iconst (-1), 1) := by decide +kernel
theorem d_X8_whyNotDone_27 : decode prog_1_method_63_code 27 = .ok (.if_icmp .ne 22, 3) := by decide +kernel
theorem d_X8_whyNotDone_49 : decode prog_1_method_63_code 49 = .ok (.iload 5, 2) := by decide +kernel
theorem d_X8_whyNotDone_51 : decode prog_1_method_63_code 51 = .ok (.sipush 1000, 3) := by decide +kernel
theorem d_X8_whyNotDone_54 : decode prog_1_method_63_code 54 = .ok (.if_icmp .ge 15, 3) := by decide +kernel
theorem d_X8_whyNotDone_57 : decode prog_1_method_63_code 57 = .ok (.aload_n 1, 1) := by decide +kernel
theorem d_X8_whyNotDone_58 : decode prog_1_method_63_code 58 = .ok (.getfield 99, 3) := by decide +kernel
theorem d_X8_whyNotDone_61 : decode prog_1_method_63_code 61 = .ok (.iload 5, 2) := by decide +kernel
theorem k_572 : Cond.methodLink "PinchedBill" 367 ⟨"PinchedBill$Walk", "start", "(I)V"⟩ ∈ gd_tbl := gd_in 572 (by decide +kernel) (by decide +kernel)
theorem kV_PinchedBill_367 : kV "PinchedBill" 367 ⟨"PinchedBill$Walk", "start", "(I)V"⟩ prog_9_method_2_code 2 none 1 := ⟨k_572, k_573, k_574, k_121, k_575, by decide, by decide, by decide +kernel⟩
theorem d_X8_whyNotDone_63 : decode prog_1_method_63_code 63 = .ok (.invokevirtual 367, 3) := by decide +kernel
theorem d_X8_whyNotDone_66 : decode prog_1_method_63_code 66 = .ok (.goto 50, 3) := by decide +kernel
theorem d_X8_whyNotDone_116 : decode prog_1_method_63_code 116 = .ok (.iconst 0, 1) := by decide +kernel
theorem d_X8_whyNotDone_117 : decode prog_1_method_63_code 117 = .ok (.ireturn, 1) := by decide +kernel
theorem d_X8_whyNotDone_30 : decode prog_1_method_63_code 30 = .ok (.aload_n 0, 1) := by decide +kernel
theorem d_X8_whyNotDone_31 : decode prog_1_method_63_code 31 = .ok (.invokevirtual 95, 3) := by decide +kernel
theorem d_X8_whyNotDone_34 : decode prog_1_method_63_code 34 = .ok (.aload_n 1, 1) := by decide +kernel
theorem d_X8_whyNotDone_35 : decode prog_1_method_63_code 35 = .ok (.getfield 99, 3) := by decide +kernel
theorem d_X8_whyNotDone_38 : decode prog_1_method_63_code 38 = .ok (.aload_n 1, 1) := by decide +kernel
theorem d_X8_whyNotDone_39 : decode prog_1_method_63_code 39 = .ok (.getfield 92, 3) := by decide +kernel
theorem k_545 : Cond.methodLink "PinchedBill" 363 ⟨"PinchedBill$Laws", "step", "(LPinchedBill$Walk;I)I"⟩ ∈ gd_tbl := gd_in 545 (by decide +kernel) (by decide +kernel)
theorem kV_PinchedBill_363 : kV "PinchedBill" 363 ⟨"PinchedBill$Laws", "step", "(LPinchedBill$Walk;I)I"⟩ prog_4_method_12_code 4 (some .int) 2 := ⟨k_545, k_546, k_547, k_137, k_548, by decide, by decide, by decide +kernel⟩
theorem d_X8_whyNotDone_42 : decode prog_1_method_63_code 42 = .ok (.invokevirtual 363, 3) := by decide +kernel
theorem d_X8_whyNotDone_45 : decode prog_1_method_63_code 45 = .ok (.pop, 1) := by decide +kernel
theorem d_X8_whyNotDone_46 : decode prog_1_method_63_code 46 = .ok (.goto 70, 3) := by decide +kernel
theorem d_X8_draft_0 : decode prog_1_method_12_code 0 = .ok (.iload_n 1, 1) := by decide +kernel
theorem d_X8_draft_1 : decode prog_1_method_12_code 1 = .ok (.ifCond .lt 10, 3) := by decide +kernel
theorem d_X8_draft_11 : decode prog_1_method_12_code 11 = .ok (.iconst (-1), 1) := by decide +kernel
theorem d_X8_draft_12 : decode prog_1_method_12_code 12 = .ok (.ireturn, 1) := by decide +kernel
theorem d_X8_draft_4 : decode prog_1_method_12_code 4 = .ok (.iload_n 1, 1) := by decide +kernel
theorem d_X8_draft_5 : decode prog_1_method_12_code 5 = .ok (.sipush 1000, 3) := by decide +kernel
theorem d_X8_draft_8 : decode prog_1_method_12_code 8 = .ok (.if_icmp .lt 5, 3) := by decide +kernel
theorem d_X8_draft_13 : decode prog_1_method_12_code 13 = .ok (.aload_n 0, 1) := by decide +kernel
theorem d_X8_draft_14 : decode prog_1_method_12_code 14 = .ok (.getfield 26, 3) := by decide +kernel
theorem d_X8_draft_17 : decode prog_1_method_12_code 17 = .ok (.getfield 99, 3) := by decide +kernel
theorem d_X8_draft_20 : decode prog_1_method_12_code 20 = .ok (.getfield 103, 3) := by decide +kernel
theorem d_X8_draft_23 : decode prog_1_method_12_code 23 = .ok (.istore_n 2, 1) := by decide +kernel
theorem d_X8_draft_24 : decode prog_1_method_12_code 24 = .ok (.aload_n 0, 1) := by decide +kernel
theorem d_X8_draft_25 : decode prog_1_method_12_code 25 = .ok (.aload_n 0, 1) := by decide +kernel
theorem d_X8_draft_26 : decode prog_1_method_12_code 26 = .ok (.getfield 26, 3) := by decide +kernel
theorem d_X8_draft_29 : decode prog_1_method_12_code 29 = .ok (.iload_n 1, 1) := by decide +kernel
theorem d_X8_draft_30 : decode prog_1_method_12_code 30 = .ok (.i2l, 1) := by decide +kernel
theorem k_523 : Cond.code ⟨"PinchedBill", "whyNotDone", "(LPinchedBill$Standing;J)I"⟩ prog_1_method_63_code 6 (some .int) ∈ gd_tbl := gd_in 523 (by decide +kernel) (by decide +kernel)
theorem k_520 : Cond.methodLink "PinchedBill" 132 ⟨"PinchedBill", "whyNotDone", "(LPinchedBill$Standing;J)I"⟩ ∈ gd_tbl := gd_in 520 (by decide +kernel) (by decide +kernel)
theorem k_522 : Cond.instanceMethod ⟨"PinchedBill", "whyNotDone", "(LPinchedBill$Standing;J)I"⟩ ∈ gd_tbl := gd_in 522 (by decide +kernel) (by decide +kernel)
theorem k_5 : Cond.selects "PinchedBill" ⟨"PinchedBill", "whyNotDone", "(LPinchedBill$Standing;J)I"⟩ ⟨"PinchedBill", "whyNotDone", "(LPinchedBill$Standing;J)I"⟩ ∈ gd_tbl := gd_in 5 (by decide +kernel) (by decide +kernel)
theorem kV_PinchedBill_132 : kV "PinchedBill" 132 ⟨"PinchedBill", "whyNotDone", "(LPinchedBill$Standing;J)I"⟩ prog_1_method_63_code 6 (some .int) 2 := ⟨k_520, k_522, k_5, k_117, k_523, by decide, by decide, by decide +kernel⟩
theorem d_X8_draft_31 : decode prog_1_method_12_code 31 = .ok (.invokevirtual 132, 3) := by decide +kernel
theorem d_X8_draft_34 : decode prog_1_method_12_code 34 = .ok (.istore_n 3, 1) := by decide +kernel
theorem d_X8_draft_35 : decode prog_1_method_12_code 35 = .ok (.iload_n 3, 1) := by decide +kernel
theorem d_X8_draft_36 : decode prog_1_method_12_code 36 = .ok (.ifCond .ne 7, 3) := by decide +kernel
theorem d_X8_draft_43 : decode prog_1_method_12_code 43 = .ok (.iload_n 3, 1) := by decide +kernel
theorem d_X8_draft_44 : decode prog_1_method_12_code 44 = .ok (.ineg, 1) := by decide +kernel
theorem d_X8_draft_45 : decode prog_1_method_12_code 45 = .ok (.ireturn, 1) := by decide +kernel
theorem d_X8_draft_39 : decode prog_1_method_12_code 39 = .ok (.iload_n 2, 1) := by decide +kernel
theorem d_X8_draft_40 : decode prog_1_method_12_code 40 = .ok (.goto 5, 3) := by decide +kernel
theorem d_X8_seatMoved_0 : decode prog_1_method_61_code 0 = .ok (.iload_n 2, 1) := by decide +kernel
theorem d_X8_seatMoved_1 : decode prog_1_method_61_code 1 = .ok (.ifCond .lt 9, 3) := by decide +kernel
theorem d_X8_seatMoved_10 : decode prog_1_method_61_code 10 = .ok (.iconst (-1), 1) := by decide +kernel
theorem d_X8_seatMoved_11 : decode prog_1_method_61_code 11 = .ok (.ireturn, 1) := by decide +kernel
theorem d_X8_seatMoved_4 : decode prog_1_method_61_code 4 = .ok (.iload_n 2, 1) := by decide +kernel
theorem d_X8_seatMoved_5 : decode prog_1_method_61_code 5 = .ok (.bipush 8, 2) := by decide +kernel
theorem d_X8_seatMoved_7 : decode prog_1_method_61_code 7 = .ok (.if_icmp .lt 5, 3) := by decide +kernel
theorem d_X8_seatMoved_12 : decode prog_1_method_61_code 12 = .ok (.aload_n 0, 1) := by decide +kernel
theorem d_X8_seatMoved_13 : decode prog_1_method_61_code 13 = .ok (.aload_n 0, 1) := by decide +kernel
theorem d_X8_seatMoved_14 : decode prog_1_method_61_code 14 = .ok (.getfield 26, 3) := by decide +kernel
theorem d_X8_seatMoved_17 : decode prog_1_method_61_code 17 = .ok (.iload_n 1, 1) := by decide +kernel
theorem d_X8_seatMoved_18 : decode prog_1_method_61_code 18 = .ok (.iload_n 2, 1) := by decide +kernel
theorem d_X8_seatMoved_19 : decode prog_1_method_61_code 19 = .ok (.iadd, 1) := by decide +kernel
theorem d_X8_seatMoved_20 : decode prog_1_method_61_code 20 = .ok (.i2l, 1) := by decide +kernel
theorem d_X8_seatMoved_21 : decode prog_1_method_61_code 21 = .ok (.invokevirtual 132, 3) := by decide +kernel
theorem d_X8_seatMoved_24 : decode prog_1_method_61_code 24 = .ok (.istore_n 3, 1) := by decide +kernel
theorem d_X8_seatMoved_25 : decode prog_1_method_61_code 25 = .ok (.iload_n 3, 1) := by decide +kernel
theorem d_X8_seatMoved_26 : decode prog_1_method_61_code 26 = .ok (.ifCond .ne 16, 3) := by decide +kernel
theorem d_X8_seatMoved_42 : decode prog_1_method_61_code 42 = .ok (.iload_n 3, 1) := by decide +kernel
theorem d_X8_seatMoved_43 : decode prog_1_method_61_code 43 = .ok (.ineg, 1) := by decide +kernel
theorem d_X8_seatMoved_44 : decode prog_1_method_61_code 44 = .ok (.ireturn, 1) := by decide +kernel
theorem d_X8_send_0 : decode prog_1_method_13_code 0 = .ok (.aload_n 0, 1) := by decide +kernel
theorem d_X8_send_1 : decode prog_1_method_13_code 1 = .ok (.sipush 1000, 3) := by decide +kernel
theorem d_X8_send_4 : decode prog_1_method_13_code 4 = .ok (.iload_n 1, 1) := by decide +kernel
theorem k_583 : Cond.code ⟨"PinchedBill", "seatMoved", "(II)I"⟩ prog_1_method_61_code 4 (some .int) ∈ gd_tbl := gd_in 583 (by decide +kernel) (by decide +kernel)
theorem k_580 : Cond.methodLink "PinchedBill" 136 ⟨"PinchedBill", "seatMoved", "(II)I"⟩ ∈ gd_tbl := gd_in 580 (by decide +kernel) (by decide +kernel)
theorem k_582 : Cond.instanceMethod ⟨"PinchedBill", "seatMoved", "(II)I"⟩ ∈ gd_tbl := gd_in 582 (by decide +kernel) (by decide +kernel)
theorem k_8 : Cond.selects "PinchedBill" ⟨"PinchedBill", "seatMoved", "(II)I"⟩ ⟨"PinchedBill", "seatMoved", "(II)I"⟩ ∈ gd_tbl := gd_in 8 (by decide +kernel) (by decide +kernel)
theorem kV_PinchedBill_136 : kV "PinchedBill" 136 ⟨"PinchedBill", "seatMoved", "(II)I"⟩ prog_1_method_61_code 4 (some .int) 2 := ⟨k_580, k_582, k_8, k_117, k_583, by decide, by decide, by decide +kernel⟩
theorem d_X8_send_5 : decode prog_1_method_13_code 5 = .ok (.invokevirtual 136, 3) := by decide +kernel
theorem d_X8_send_8 : decode prog_1_method_13_code 8 = .ok (.ireturn, 1) := by decide +kernel
theorem d_X8_call_0 : decode prog_1_method_14_code 0 = .ok (.aload_n 0, 1) := by decide +kernel
theorem d_X8_call_1 : decode prog_1_method_14_code 1 = .ok (.sipush 2000, 3) := by decide +kernel
theorem d_X8_call_4 : decode prog_1_method_14_code 4 = .ok (.iload_n 1, 1) := by decide +kernel
theorem d_X8_call_5 : decode prog_1_method_14_code 5 = .ok (.invokevirtual 136, 3) := by decide +kernel
theorem d_X8_call_8 : decode prog_1_method_14_code 8 = .ok (.ireturn, 1) := by decide +kernel
theorem k_1124 : Cond.constant "PinchedBill" 370 1103515245 ∈ gd_tbl := gd_in 1124 (by decide +kernel) (by decide +kernel)
theorem d_X8_drawnFrom_0 : decode prog_1_method_65_code 0 = .ok (.ldc_w 370, 3) := by decide +kernel
theorem d_X8_drawnFrom_3 : decode prog_1_method_65_code 3 = .ok (.iload_n 0, 1) := by decide +kernel
theorem d_X8_drawnFrom_4 : decode prog_1_method_65_code 4 = .ok (.imul, 1) := by decide +kernel
theorem d_X8_drawnFrom_5 : decode prog_1_method_65_code 5 = .ok (.sipush 12345, 3) := by decide +kernel
theorem d_X8_drawnFrom_8 : decode prog_1_method_65_code 8 = .ok (.iadd, 1) := by decide +kernel
theorem d_X8_drawnFrom_9 : decode prog_1_method_65_code 9 = .ok (.ireturn, 1) := by decide +kernel
theorem d_X8_toldInWinter_0 : decode prog_1_method_66_code 0 = .ok (.iload_n 0, 1) := by decide +kernel
theorem d_X8_toldInWinter_1 : decode prog_1_method_66_code 1 = .ok (.iconst 2, 1) := by decide +kernel
theorem d_X8_toldInWinter_2 : decode prog_1_method_66_code 2 = .ok (.if_icmp .ne 9, 3) := by decide +kernel
theorem d_X8_toldInWinter_5 : decode prog_1_method_66_code 5 = .ok (.iload_n 1, 1) := by decide +kernel
theorem d_X8_toldInWinter_6 : decode prog_1_method_66_code 6 = .ok (.sipush 1000, 3) := by decide +kernel
theorem d_X8_toldInWinter_9 : decode prog_1_method_66_code 9 = .ok (.irem, 1) := by decide +kernel
theorem d_X8_toldInWinter_10 : decode prog_1_method_66_code 10 = .ok (.ireturn, 1) := by decide +kernel
theorem d_X8_toldInWinter_11 : decode prog_1_method_66_code 11 = .ok (.iload_n 0, 1) := by decide +kernel
theorem d_X8_toldInWinter_12 : decode prog_1_method_66_code 12 = .ok (.iconst 3, 1) := by decide +kernel
theorem d_X8_toldInWinter_13 : decode prog_1_method_66_code 13 = .ok (.if_icmp .ne 9, 3) := by decide +kernel
theorem d_X8_toldInWinter_16 : decode prog_1_method_66_code 16 = .ok (.sipush 1000, 3) := by decide +kernel
theorem d_X8_toldInWinter_19 : decode prog_1_method_66_code 19 = .ok (.goto 6, 3) := by decide +kernel
theorem d_X8_toldInWinter_25 : decode prog_1_method_66_code 25 = .ok (.iload_n 1, 1) := by decide +kernel
theorem d_X8_toldInWinter_26 : decode prog_1_method_66_code 26 = .ok (.bipush 8, 2) := by decide +kernel
theorem d_X8_toldInWinter_28 : decode prog_1_method_66_code 28 = .ok (.irem, 1) := by decide +kernel
theorem d_X8_toldInWinter_29 : decode prog_1_method_66_code 29 = .ok (.iadd, 1) := by decide +kernel
theorem d_X8_toldInWinter_30 : decode prog_1_method_66_code 30 = .ok (.ireturn, 1) := by decide +kernel
theorem d_X8_toldInWinter_22 : decode prog_1_method_66_code 22 = .ok (.sipush 2000, 3) := by decide +kernel
section LOOPS2
variable {p : Program} {l : Launch} {e : Env} {R : Room} {s : State} {m : MethodId} {args : Array Value} {below : List Frame} {meth : Method} {c : Code} {H : Heap} {locs : List Loc} {cells slots : Nat} {Q : State → Prop} {pc : Nat} {ls : Array Slot}
theorem loopW9 {α β γ δ ε ζ η θ ι : Type} (I : α → β → γ → δ → ε → ζ → η → θ → ι → Heap → List Loc → Array Slot → Prop) (μ : α → β → γ → δ → ε → ζ → η → θ → ι → Nat) (step : ∀ (x0 : α) (x1 : β) (x2 : γ) (x3 : δ) (x4 : ε) (x5 : ζ) (x6 : η) (x7 : θ) (x8 : ι) (H : Heap) (locs : List Loc) (ls : Array Slot), I x0 x1 x2 x3 x4 x5 x6 x7 x8 H locs ls → (∀ (y0 : α) (y1 : β) (y2 : γ) (y3 : δ) (y4 : ε) (y5 : ζ) (y6 : η) (y7 : θ) (y8 : ι) (H' : Heap) (locs' : List Loc) (ls' : Array Slot), μ y0 y1 y2 y3 y4 y5 y6 y7 y8 < μ x0 x1 x2 x3 x4 x5 x6 x7 x8 → I y0 y1 y2 y3 y4 y5 y6 y7 y8 H' locs' ls' → W p l e R s m args below meth c H' locs' cells slots Q (F0 m pc ls' [])) → W p l e R s m args below meth c H locs cells slots Q (F0 m pc ls [])) (x0 : α) (x1 : β) (x2 : γ) (x3 : δ) (x4 : ε) (x5 : ζ) (x6 : η) (x7 : θ) (x8 : ι) (h0 : I x0 x1 x2 x3 x4 x5 x6 x7 x8 H locs ls) : W p l e R s m args below meth c H locs cells slots Q (F0 m pc ls []) :=
  loopW8 (α := α) (β := β) (γ := γ) (δ := δ) (ε := ε) (ζ := ζ) (η := η) (θ := θ × ι) (fun x0 x1 x2 x3 x4 x5 x6 z => I x0 x1 x2 x3 x4 x5 x6 z.1 z.2) (fun x0 x1 x2 x3 x4 x5 x6 z => μ x0 x1 x2 x3 x4 x5 x6 z.1 z.2) (fun x0 x1 x2 x3 x4 x5 x6 z H locs ls hI ih => step x0 x1 x2 x3 x4 x5 x6 z.1 z.2 H locs ls hI (fun y0 y1 y2 y3 y4 y5 y6 y7 y8 => ih y0 y1 y2 y3 y4 y5 y6 (y7, y8))) x0 x1 x2 x3 x4 x5 x6 (x7, x8) h0
theorem loopW10 {α β γ δ ε ζ η θ ι κ : Type} (I : α → β → γ → δ → ε → ζ → η → θ → ι → κ → Heap → List Loc → Array Slot → Prop) (μ : α → β → γ → δ → ε → ζ → η → θ → ι → κ → Nat) (step : ∀ (x0 : α) (x1 : β) (x2 : γ) (x3 : δ) (x4 : ε) (x5 : ζ) (x6 : η) (x7 : θ) (x8 : ι) (x9 : κ) (H : Heap) (locs : List Loc) (ls : Array Slot), I x0 x1 x2 x3 x4 x5 x6 x7 x8 x9 H locs ls → (∀ (y0 : α) (y1 : β) (y2 : γ) (y3 : δ) (y4 : ε) (y5 : ζ) (y6 : η) (y7 : θ) (y8 : ι) (y9 : κ) (H' : Heap) (locs' : List Loc) (ls' : Array Slot), μ y0 y1 y2 y3 y4 y5 y6 y7 y8 y9 < μ x0 x1 x2 x3 x4 x5 x6 x7 x8 x9 → I y0 y1 y2 y3 y4 y5 y6 y7 y8 y9 H' locs' ls' → W p l e R s m args below meth c H' locs' cells slots Q (F0 m pc ls' [])) → W p l e R s m args below meth c H locs cells slots Q (F0 m pc ls [])) (x0 : α) (x1 : β) (x2 : γ) (x3 : δ) (x4 : ε) (x5 : ζ) (x6 : η) (x7 : θ) (x8 : ι) (x9 : κ) (h0 : I x0 x1 x2 x3 x4 x5 x6 x7 x8 x9 H locs ls) : W p l e R s m args below meth c H locs cells slots Q (F0 m pc ls []) :=
  loopW9 (α := α) (β := β) (γ := γ) (δ := δ) (ε := ε) (ζ := ζ) (η := η) (θ := θ) (ι := ι × κ) (fun x0 x1 x2 x3 x4 x5 x6 x7 z => I x0 x1 x2 x3 x4 x5 x6 x7 z.1 z.2) (fun x0 x1 x2 x3 x4 x5 x6 x7 z => μ x0 x1 x2 x3 x4 x5 x6 x7 z.1 z.2) (fun x0 x1 x2 x3 x4 x5 x6 x7 z H locs ls hI ih => step x0 x1 x2 x3 x4 x5 x6 x7 z.1 z.2 H locs ls hI (fun y0 y1 y2 y3 y4 y5 y6 y7 y8 y9 => ih y0 y1 y2 y3 y4 y5 y6 y7 (y8, y9))) x0 x1 x2 x3 x4 x5 x6 x7 (x8, x9) h0
theorem loopW11 {α β γ δ ε ζ η θ ι κ μ1 : Type} (I : α → β → γ → δ → ε → ζ → η → θ → ι → κ → μ1 → Heap → List Loc → Array Slot → Prop) (μ : α → β → γ → δ → ε → ζ → η → θ → ι → κ → μ1 → Nat) (step : ∀ (x0 : α) (x1 : β) (x2 : γ) (x3 : δ) (x4 : ε) (x5 : ζ) (x6 : η) (x7 : θ) (x8 : ι) (x9 : κ) (x10 : μ1) (H : Heap) (locs : List Loc) (ls : Array Slot), I x0 x1 x2 x3 x4 x5 x6 x7 x8 x9 x10 H locs ls → (∀ (y0 : α) (y1 : β) (y2 : γ) (y3 : δ) (y4 : ε) (y5 : ζ) (y6 : η) (y7 : θ) (y8 : ι) (y9 : κ) (y10 : μ1) (H' : Heap) (locs' : List Loc) (ls' : Array Slot), μ y0 y1 y2 y3 y4 y5 y6 y7 y8 y9 y10 < μ x0 x1 x2 x3 x4 x5 x6 x7 x8 x9 x10 → I y0 y1 y2 y3 y4 y5 y6 y7 y8 y9 y10 H' locs' ls' → W p l e R s m args below meth c H' locs' cells slots Q (F0 m pc ls' [])) → W p l e R s m args below meth c H locs cells slots Q (F0 m pc ls [])) (x0 : α) (x1 : β) (x2 : γ) (x3 : δ) (x4 : ε) (x5 : ζ) (x6 : η) (x7 : θ) (x8 : ι) (x9 : κ) (x10 : μ1) (h0 : I x0 x1 x2 x3 x4 x5 x6 x7 x8 x9 x10 H locs ls) : W p l e R s m args below meth c H locs cells slots Q (F0 m pc ls []) :=
  loopW10 (α := α) (β := β) (γ := γ) (δ := δ) (ε := ε) (ζ := ζ) (η := η) (θ := θ) (ι := ι) (κ := κ × μ1) (fun x0 x1 x2 x3 x4 x5 x6 x7 x8 z => I x0 x1 x2 x3 x4 x5 x6 x7 x8 z.1 z.2) (fun x0 x1 x2 x3 x4 x5 x6 x7 x8 z => μ x0 x1 x2 x3 x4 x5 x6 x7 x8 z.1 z.2) (fun x0 x1 x2 x3 x4 x5 x6 x7 x8 z H locs ls hI ih => step x0 x1 x2 x3 x4 x5 x6 x7 x8 z.1 z.2 H locs ls hI (fun y0 y1 y2 y3 y4 y5 y6 y7 y8 y9 y10 => ih y0 y1 y2 y3 y4 y5 y6 y7 y8 (y9, y10))) x0 x1 x2 x3 x4 x5 x6 x7 x8 (x9, x10) h0
theorem loopW12 {α β γ δ ε ζ η θ ι κ μ1 ν : Type} (I : α → β → γ → δ → ε → ζ → η → θ → ι → κ → μ1 → ν → Heap → List Loc → Array Slot → Prop) (μ : α → β → γ → δ → ε → ζ → η → θ → ι → κ → μ1 → ν → Nat) (step : ∀ (x0 : α) (x1 : β) (x2 : γ) (x3 : δ) (x4 : ε) (x5 : ζ) (x6 : η) (x7 : θ) (x8 : ι) (x9 : κ) (x10 : μ1) (x11 : ν) (H : Heap) (locs : List Loc) (ls : Array Slot), I x0 x1 x2 x3 x4 x5 x6 x7 x8 x9 x10 x11 H locs ls → (∀ (y0 : α) (y1 : β) (y2 : γ) (y3 : δ) (y4 : ε) (y5 : ζ) (y6 : η) (y7 : θ) (y8 : ι) (y9 : κ) (y10 : μ1) (y11 : ν) (H' : Heap) (locs' : List Loc) (ls' : Array Slot), μ y0 y1 y2 y3 y4 y5 y6 y7 y8 y9 y10 y11 < μ x0 x1 x2 x3 x4 x5 x6 x7 x8 x9 x10 x11 → I y0 y1 y2 y3 y4 y5 y6 y7 y8 y9 y10 y11 H' locs' ls' → W p l e R s m args below meth c H' locs' cells slots Q (F0 m pc ls' [])) → W p l e R s m args below meth c H locs cells slots Q (F0 m pc ls [])) (x0 : α) (x1 : β) (x2 : γ) (x3 : δ) (x4 : ε) (x5 : ζ) (x6 : η) (x7 : θ) (x8 : ι) (x9 : κ) (x10 : μ1) (x11 : ν) (h0 : I x0 x1 x2 x3 x4 x5 x6 x7 x8 x9 x10 x11 H locs ls) : W p l e R s m args below meth c H locs cells slots Q (F0 m pc ls []) :=
  loopW11 (α := α) (β := β) (γ := γ) (δ := δ) (ε := ε) (ζ := ζ) (η := η) (θ := θ) (ι := ι) (κ := κ) (μ1 := μ1 × ν) (fun x0 x1 x2 x3 x4 x5 x6 x7 x8 x9 z => I x0 x1 x2 x3 x4 x5 x6 x7 x8 x9 z.1 z.2) (fun x0 x1 x2 x3 x4 x5 x6 x7 x8 x9 z => μ x0 x1 x2 x3 x4 x5 x6 x7 x8 x9 z.1 z.2) (fun x0 x1 x2 x3 x4 x5 x6 x7 x8 x9 z H locs ls hI ih => step x0 x1 x2 x3 x4 x5 x6 x7 x8 x9 z.1 z.2 H locs ls hI (fun y0 y1 y2 y3 y4 y5 y6 y7 y8 y9 y10 y11 => ih y0 y1 y2 y3 y4 y5 y6 y7 y8 y9 (y10, y11))) x0 x1 x2 x3 x4 x5 x6 x7 x8 x9 (x10, x11) h0
end LOOPS2
def wx (x : Int32) : Int32 := 1103515245 * x + 12345
def wd (x : Int32) : Nat := x.toBitVec.toNat / 65536
theorem wd_lt (x : Int32) : wd x < 65536 := by
  unfold wd
  have := x.toBitVec.isLt
  omega
theorem us16 (x : Int32) : (x.toUInt32 >>> ((16 : Int32).toUInt32 &&& Int32.toUInt32 31)).toInt32 = nI (wd x) := by
  have h := pk_ushr x 16 16 (by decide)
  have h2 : ((x.toUInt32 >>> ((16 : Int32).toUInt32 &&& Int32.toUInt32 31)).toInt32).toBitVec.toNat = (nI (wd x)).toBitVec.toNat := by
    rw [h, pk_tn (Nat.lt_trans (wd_lt x) (by decide))]
    rfl
  exact Int32.toBitVec_inj.mp (BitVec.eq_of_toNat_eq h2)
def wg (a : Nat) : Nat := if bB (nI a) = 1 then 1 else 0
def winc (x : Int32) : Nat := if wd (wx x) % 5 < 2 then 1 else if wd (wx x) % 5 = 2 then wg (wd (wx (wx x)) % 1000) else 0
def wnx (x : Int32) : Int32 := if wd (wx x) % 5 < 2 then wx x else wx (wx x)
def wct : Nat → Int32 → Nat
  | 0, _ => 0
  | n + 1, x => winc x + wct n (wnx x)
theorem wct_s (n : Nat) (x : Int32) : wct (n + 1) x = winc x + wct n (wnx x) := rfl
theorem winc_a {x : Int32} {w : Nat} (h1 : wd (wx x) = w) (h : w % 5 < 2) : winc x = 1 ∧ wnx x = wx x := by
  subst h1
  unfold winc wnx
  rw [if_pos h, if_pos h]
  exact ⟨rfl, rfl⟩
theorem winc_b {x : Int32} {w w2 : Nat} (h1 : wd (wx x) = w) (h2 : wd (wx (wx x)) = w2) (h : w % 5 = 2) : winc x = wg (w2 % 1000) ∧ wnx x = wx (wx x) := by
  subst h1; subst h2
  unfold winc wnx
  rw [if_neg (by omega), if_pos h, if_neg (by omega)]
  exact ⟨rfl, rfl⟩
theorem winc_c {x : Int32} {w : Nat} (h1 : wd (wx x) = w) (h : 2 < w % 5) : winc x = 0 ∧ wnx x = wx (wx x) := by
  subst h1
  unfold winc wnx
  rw [if_neg (by omega), if_neg (by omega), if_neg (by omega)]
  exact ⟨rfl, rfl⟩
theorem wg_1 {a : Nat} (h : wB a = 0) : wg a = 1 := by
  unfold wB at h
  unfold wg
  by_cases hb : bB (nI a) = 1
  · rw [if_pos hb]
  · rw [if_neg hb] at h; exact absurd h (by decide)
theorem wg_0 {a : Nat} (h : ¬ wB a = 0) : wg a = 0 := by
  unfold wB at h
  unfold wg
  by_cases hb : bB (nI a) = 1
  · rw [if_pos hb] at h; exact absurd rfl h
  · rw [if_neg hb]
theorem tm_of {t : Int32} (h : ¬ t < 1 ∧ ¬ 30 < t) : ∃ T : Nat, T < 31 ∧ 0 < T ∧ t = nI T := by
  have h0 : ¬ t < 0 := fun h9 => h.1 (by
    rw [Int32.lt_iff_toInt_lt] at h9 ⊢
    have e0 : (0 : Int32).toInt = 0 := by decide
    have e1 : (1 : Int32).toInt = 1 := by decide
    omega)
  obtain ⟨a, ha, rfl⟩ := nI_of h0
  have h1 := un_nlt a 1 rfl rfl ha (by omega) h.1
  have h2 := un_nlt 30 a rfl rfl (by omega) ha h.2
  exact ⟨a, by omega, by omega, rfl⟩
set_option maxHeartbeats 4000000 in
set_option maxRecDepth 100000 in
theorem c_whyM (l : Launch) (D : va_G) (ty : Nat → ClassId) (h0 : Nat) (rd : Nat) (ho : Nat) (nw : Nat) (tr : Nat) (ts : Nat) (im : Nat) (g1 : Nat) (g2 : Nat) (g3 : Nat) (n0 : Nat) (n1 : Nat) (n2 : Nat) (n3 : Nat) (rv : Value) (d : Nat) : CC l D ty ⟨"PinchedBill", "whyNot", "(LPinchedBill$Standing;J)I"⟩ prog_1_method_62_code 8 (some .int) 0 0 0 0 [.ref h0, .ref nw, .long (-1)] [(h0, eO 8 [.ref rd, .ref ho, .ref nw, .ref tr, .ref ts, .ref im, rv]), (ho, eO 0 [.int 0, .int 1, .int 0, .int 0, .int 0, .int 0, .int 0, .int 0, .int 0, .int 0, .ref g1, .ref g2, .ref g3]), (nw, eO 5 [.ref n0, .int 0, .int (nI d), .ref n1, .ref n2, .ref n3])] (QI D ty (fun (r : Int32) (w : va_W) => 0 = r ∧ w = [(h0, eO 8 [.ref rd, .ref ho, .ref nw, .ref tr, .ref ts, .ref im, rv]), (ho, eO 0 [.int 0, .int 1, .int 0, .int 0, .int 0, .int 0, .int 0, .int 0, .int 0, .int 0, .ref g1, .ref g2, .ref g3]), (nw, eO 5 [.ref n0, .int 0, .int (nI d), .ref n1, .ref n2, .ref n3])])) := by
  refine CC_of (by decide) ?_
  intro p e s m below meth c A C hP hD hS
  obtain ⟨⟨hx, hb, hml, hown, hts⟩, hr, hlocks, hnm, hK, hE, hA, hZ⟩ := id C
  refine startW [.ref h0, .ref nw, .long (-1)] 8 (nle rfl) (lv := [(0, .ref h0), (1, .ref nw), (2, .long (-1))]) rfl (fun ls hl => ?_)
  refine lv_lload_n hx hb d_X8_whyNot_0 rfl (lv_at hl 2 rfl) ?_
  refine lv_ldc2 hx hb hown (hts _ k_528) d_X8_whyNot_1 ?_
  refine W.lcmp hx hb d_X8_whyNot_4 (W.eq (g2 := F0 m 5 ls [.int 0]) (by rfl) ?_)
  refine b_if_neF C 10 d_X8_whyNot_5 (by decide) (by decide) ?_
  refine lv_iconst (v := 0) hx hb d_X8_whyNot_8 (by decide) ?_
  exact ret_I (w := [(h0, eO 8 [.ref rd, .ref ho, .ref nw, .ref tr, .ref ts, .ref im, rv]), (ho, eO 0 [.int 0, .int 1, .int 0, .int 0, .int 0, .int 0, .int 0, .int 0, .int 0, .int 0, .ref g1, .ref g2, .ref g3]), (nw, eO 5 [.ref n0, .int 0, .int (nI d), .ref n1, .ref n2, .ref n3])]) C hP hD hS [0, 1, 2] rfl rfl ⟨rfl, rfl⟩ (by decide) (by decide) d_X8_whyNot_9
set_option maxHeartbeats 4000000 in
set_option maxRecDepth 100000 in
theorem c_whyB (l : Launch) (D : va_G) (ty : Nat → ClassId) (h0 : Nat) (rd : Nat) (ho : Nat) (nw : Nat) (tr : Nat) (ts : Nat) (im : Nat) (g1 : Nat) (g2 : Nat) (g3 : Nat) (n0 : Nat) (n1 : Nat) (n2 : Nat) (n3 : Nat) (rv : Value) (d : Nat) (a : Nat) (ha : a < 1000) : CC l D ty ⟨"PinchedBill", "whyNot", "(LPinchedBill$Standing;J)I"⟩ prog_1_method_62_code 8 (some .int) 1 21 0 0 [.ref h0, .ref nw, .long (lN a)] [(h0, eO 8 [.ref rd, .ref ho, .ref nw, .ref tr, .ref ts, .ref im, rv]), (ho, eO 0 [.int 0, .int 1, .int 0, .int 0, .int 0, .int 0, .int 0, .int 0, .int 0, .int 0, .ref g1, .ref g2, .ref g3]), (nw, eO 5 [.ref n0, .int 0, .int (nI d), .ref n1, .ref n2, .ref n3])] (QI D ty (fun (r : Int32) (w : va_W) => (wB a) = r ∧ w = [(h0, eO 8 [.ref rd, .ref ho, .ref nw, .ref tr, .ref ts, .ref im, rv]), (ho, eO 0 [.int 0, .int 1, .int 0, .int 0, .int 0, .int 0, .int 0, .int 0, .int 0, .int 0, .ref g1, .ref g2, .ref g3]), (nw, eO 5 [.ref n0, .int 0, .int (nI d), .ref n1, .ref n2, .ref n3])])) := by
  refine CC_of (by decide) ?_
  intro p e s m below meth c A C hP hD hS
  obtain ⟨⟨hx, hb, hml, hown, hts⟩, hr, hlocks, hnm, hK, hE, hA, hZ⟩ := id C
  refine startW [.ref h0, .ref nw, .long (lN a)] 8 (nle rfl) (lv := [(0, .ref h0), (1, .ref nw), (2, .long (lN a))]) rfl (fun ls hl => ?_)
  refine lv_lload_n hx hb d_X8_whyNot_0 rfl (lv_at hl 2 rfl) ?_
  refine lv_ldc2 hx hb hown (hts _ k_528) d_X8_whyNot_1 ?_
  refine W.lcmp hx hb d_X8_whyNot_4 (topeq (z := 1) (lc_neg a rfl (by omega) (by decide)) ?_)
  refine b_if_neT C 10 d_X8_whyNot_5 (by decide) (by decide) ?_
  refine lv_lload_n hx hb d_X8_whyNot_10 rfl (lv_at hl 2 rfl) ?_
  refine lv_lconst (v := 0) hx hb d_X8_whyNot_11 (by decide) ?_
  refine W.lcmp hx hb d_X8_whyNot_12 ?_
  refine b_if_ltF C 24 d_X8_whyNot_13 (by decide) (lcN_nlt a 0 rfl rfl (by omega) (by omega) (by omega)) ?_
  refine lv_lload_n hx hb d_X8_whyNot_16 rfl (lv_at hl 2 rfl) ?_
  refine lv_ldc2 hx hb hown (hts _ k_529) d_X8_whyNot_17 ?_
  refine W.lcmp hx hb d_X8_whyNot_20 (topeq (z := (-1)) (lc_lt a 3000 rfl rfl (by omega) (by omega) (by omega)) ?_)
  refine b_if_ltT C 26 d_X8_whyNot_21 (by decide) (by decide) ?_
  refine lv_lload_n hx hb d_X8_whyNot_26 rfl (lv_at hl 2 rfl) ?_
  refine lv_l2i (v := (nI a)) hx hb d_X8_whyNot_27 (lN_i _) ?_
  refine lv_istore (lv' := [(4, .int (nI a)), (0, .ref h0), (1, .ref nw), (2, .long (lN a))]) hx hb d_X8_whyNot_28 hl (by decide) rfl (fun ls hl => ?_)
  refine lv_iload hx hb d_X8_whyNot_30 (lv_at hl 0 rfl) ?_
  refine lv_sipush (v := 1000) hx hb d_X8_whyNot_32 (by decide) ?_
  refine b_icmp_geF C 56 d_X8_whyNot_35 (by decide) (n_nle 1000 a rfl rfl (by omega) (by omega)) ?_
  refine lv_aload_n hx hb d_X8_whyNot_38 rfl (lv_at hl 1 rfl) ?_
  refine r_get (v := .ref ho) C hP 0 rfl rfl lay_X8 1 (by decide) k_321 rfl d_X8_whyNot_39 ?_
  refine lv_iload hx hb d_X8_whyNot_42 (lv_at hl 0 rfl) ?_
  have ct_1 : Cut [(h0, eO 8 [.ref rd, .ref ho, .ref nw, .ref tr, .ref ts, .ref im, rv]), (ho, eO 0 [.int 0, .int 1, .int 0, .int 0, .int 0, .int 0, .int 0, .int 0, .int 0, .int 0, .ref g1, .ref g2, .ref g3]), (nw, eO 5 [.ref n0, .int 0, .int (nI d), .ref n1, .ref n2, .ref n3])] [(ho, eO 0 [.int 0, .int 1, .int 0, .int 0, .int 0, .int 0, .int 0, .int 0, .int 0, .int 0, .ref g1, .ref g2, .ref g3])] [(h0, eO 8 [.ref rd, .ref ho, .ref nw, .ref tr, .ref ts, .ref im, rv]), (nw, eO 5 [.ref n0, .int 0, .int (nI d), .ref n1, .ref n2, .ref n3])] [1] [0, 2] := ⟨rfl, rfl, rfl, rfl, by decide⟩
  refine cont_I C hP hD hS ct_1 (run_V (As := [.int (nI a)]) (rest := []) C hP hD hS ct_1 (c_isBill l D ty ho g1 g2 g3 (nI a)) kV_PinchedBill_325 1 rfl rfl rfl rfl hl.1 rfl (nle rfl) d_X8_whyNot_44 ⟨by decide, by decide, by decide, by decide⟩) (fun r_3 w_4 H locs hw_2 hP hD hS => ?_)
  obtain ⟨rfl, rfl⟩ := hw_2
  have hP : va_P D vwCl [(h0, eO 8 [.ref rd, .ref ho, .ref nw, .ref tr, .ref ts, .ref im, rv]), (nw, eO 5 [.ref n0, .int 0, .int (nI d), .ref n1, .ref n2, .ref n3]), (ho, eO 0 [.int 0, .int 1, .int 0, .int 0, .int 0, .int 0, .int 0, .int 0, .int 0, .int 0, .ref g1, .ref g2, .ref g3])] H := hP
  have hD : va_D A [(h0, eO 8 [.ref rd, .ref ho, .ref nw, .ref tr, .ref ts, .ref im, rv]), (nw, eO 5 [.ref n0, .int 0, .int (nI d), .ref n1, .ref n2, .ref n3]), (ho, eO 0 [.int 0, .int 1, .int 0, .int 0, .int 0, .int 0, .int 0, .int 0, .int 0, .int 0, .ref g1, .ref g2, .ref g3])] := hD
  refine lv_if_eq (tgt := 54) hx hb d_X8_whyNot_47 (by decide) (fun hc_5 => ?_) (fun hc_5 => ?_)
  · refine lv_iconst (v := 1) hx hb d_X8_whyNot_54 (by decide) ?_
    exact ret_I (w := [(h0, eO 8 [.ref rd, .ref ho, .ref nw, .ref tr, .ref ts, .ref im, rv]), (ho, eO 0 [.int 0, .int 1, .int 0, .int 0, .int 0, .int 0, .int 0, .int 0, .int 0, .int 0, .ref g1, .ref g2, .ref g3]), (nw, eO 5 [.ref n0, .int 0, .int (nI d), .ref n1, .ref n2, .ref n3])]) C hP hD hS [0, 2, 1] rfl rfl ⟨(Eq.symm (by unfold wB; rw [if_neg (by rw [hc_5]; decide)])), rfl⟩ (by decide) (by decide) d_X8_whyNot_55
  · refine lv_iconst (v := 0) hx hb d_X8_whyNot_50 (by decide) ?_
    refine lv_goto (tgt := 55) hx hb d_X8_whyNot_51 (by decide) ?_
    exact ret_I (w := [(h0, eO 8 [.ref rd, .ref ho, .ref nw, .ref tr, .ref ts, .ref im, rv]), (ho, eO 0 [.int 0, .int 1, .int 0, .int 0, .int 0, .int 0, .int 0, .int 0, .int 0, .int 0, .ref g1, .ref g2, .ref g3]), (nw, eO 5 [.ref n0, .int 0, .int (nI d), .ref n1, .ref n2, .ref n3])]) C hP hD hS [0, 2, 1] rfl rfl ⟨(Eq.symm (by unfold wB; rw [if_pos (Classical.byContradiction fun h9 => hc_5 (bB_0 h9))])), rfl⟩ (by decide) (by decide) d_X8_whyNot_55
set_option maxHeartbeats 4000000 in
set_option maxRecDepth 100000 in
theorem c_whyP (l : Launch) (D : va_G) (ty : Nat → ClassId) (h0 : Nat) (rd : Nat) (ho : Nat) (nw : Nat) (tr : Nat) (ts : Nat) (im : Nat) (g1 : Nat) (g2 : Nat) (g3 : Nat) (n0 : Nat) (n1 : Nat) (n2 : Nat) (n3 : Nat) (rv : Value) (d : Nat) (a : Nat) (ha0 : 1000 ≤ a) (ha : a < 3000) : CC l D ty ⟨"PinchedBill", "whyNot", "(LPinchedBill$Standing;J)I"⟩ prog_1_method_62_code 8 (some .int) 0 0 0 0 [.ref h0, .ref nw, .long (lN a)] [(h0, eO 8 [.ref rd, .ref ho, .ref nw, .ref tr, .ref ts, .ref im, rv]), (ho, eO 0 [.int 0, .int 1, .int 0, .int 0, .int 0, .int 0, .int 0, .int 0, .int 0, .int 0, .ref g1, .ref g2, .ref g3]), (nw, eO 5 [.ref n0, .int 0, .int (nI d), .ref n1, .ref n2, .ref n3])] (QI D ty (fun (r : Int32) (w : va_W) => 1 = r ∧ w = [(h0, eO 8 [.ref rd, .ref ho, .ref nw, .ref tr, .ref ts, .ref im, rv]), (ho, eO 0 [.int 0, .int 1, .int 0, .int 0, .int 0, .int 0, .int 0, .int 0, .int 0, .int 0, .ref g1, .ref g2, .ref g3]), (nw, eO 5 [.ref n0, .int 0, .int (nI d), .ref n1, .ref n2, .ref n3])])) := by
  refine CC_of (by decide) ?_
  intro p e s m below meth c A C hP hD hS
  obtain ⟨⟨hx, hb, hml, hown, hts⟩, hr, hlocks, hnm, hK, hE, hA, hZ⟩ := id C
  refine startW [.ref h0, .ref nw, .long (lN a)] 8 (nle rfl) (lv := [(0, .ref h0), (1, .ref nw), (2, .long (lN a))]) rfl (fun ls hl => ?_)
  refine lv_lload_n hx hb d_X8_whyNot_0 rfl (lv_at hl 2 rfl) ?_
  refine lv_ldc2 hx hb hown (hts _ k_528) d_X8_whyNot_1 ?_
  refine W.lcmp hx hb d_X8_whyNot_4 (topeq (z := 1) (lc_neg a rfl (by omega) (by decide)) ?_)
  refine b_if_neT C 10 d_X8_whyNot_5 (by decide) (by decide) ?_
  refine lv_lload_n hx hb d_X8_whyNot_10 rfl (lv_at hl 2 rfl) ?_
  refine lv_lconst (v := 0) hx hb d_X8_whyNot_11 (by decide) ?_
  refine W.lcmp hx hb d_X8_whyNot_12 (topeq (z := 1) (lc_gt a 0 rfl rfl (by omega) (by omega) (by omega)) ?_)
  refine b_if_ltF C 24 d_X8_whyNot_13 (by decide) (by decide) ?_
  refine lv_lload_n hx hb d_X8_whyNot_16 rfl (lv_at hl 2 rfl) ?_
  refine lv_ldc2 hx hb hown (hts _ k_529) d_X8_whyNot_17 ?_
  refine W.lcmp hx hb d_X8_whyNot_20 (topeq (z := (-1)) (lc_lt a 3000 rfl rfl (by omega) (by omega) (by omega)) ?_)
  refine b_if_ltT C 26 d_X8_whyNot_21 (by decide) (by decide) ?_
  refine lv_lload_n hx hb d_X8_whyNot_26 rfl (lv_at hl 2 rfl) ?_
  refine lv_l2i (v := (nI a)) hx hb d_X8_whyNot_27 (lN_i _) ?_
  refine lv_istore (lv' := [(4, .int (nI a)), (0, .ref h0), (1, .ref nw), (2, .long (lN a))]) hx hb d_X8_whyNot_28 hl (by decide) rfl (fun ls hl => ?_)
  refine lv_iload hx hb d_X8_whyNot_30 (lv_at hl 0 rfl) ?_
  refine lv_sipush (v := 1000) hx hb d_X8_whyNot_32 (by decide) ?_
  refine b_icmp_geT C 56 d_X8_whyNot_35 (by decide) (n_le 1000 a rfl rfl (by omega) (by omega)) ?_
  refine lv_iload hx hb d_X8_whyNot_56 (lv_at hl 0 rfl) ?_
  refine lv_sipush (v := 2000) hx hb d_X8_whyNot_58 (by decide) ?_
  refine lv_icmp_ge (tgt := 68) hx hb d_X8_whyNot_61 (by decide) (fun hc_1 => ?_) (fun hc_1 => ?_)
  · have hc_1 := un_le 2000 a rfl rfl (by omega) (by omega) hc_1
    refine lv_iconst (v := 0) hx hb d_X8_whyNot_68 (by decide) ?_
    refine lv_istore (lv' := [(5, .int 0), (4, .int (nI a)), (0, .ref h0), (1, .ref nw), (2, .long (lN a))]) hx hb d_X8_whyNot_69 hl (by decide) rfl (fun ls hl => ?_)
    refine lv_iload hx hb d_X8_whyNot_71 (lv_at hl 0 rfl) ?_
    refine b_if_eqT C 85 d_X8_whyNot_73 (by decide) (by decide) ?_
    refine lv_iload hx hb d_X8_whyNot_85 (lv_at hl 1 rfl) ?_
    refine lv_sipush (v := 2000) hx hb d_X8_whyNot_87 (by decide) ?_
    refine r_isub (z := (nI (a - 2000))) C d_X8_whyNot_90 (a_sub a 2000 (a - 2000) rfl rfl (by omega)) ?_
    refine lv_istore (lv' := [(6, .int (nI (a - 2000))), (5, .int 0), (4, .int (nI a)), (0, .ref h0), (1, .ref nw), (2, .long (lN a))]) hx hb d_X8_whyNot_91 hl (by decide) rfl (fun ls hl => ?_)
    refine lv_iload hx hb d_X8_whyNot_93 (lv_at hl 0 rfl) ?_
    refine lv_aload_n hx hb d_X8_whyNot_95 rfl (lv_at hl 3 rfl) ?_
    refine r_get (v := .ref ho) C hP 0 rfl rfl lay_X8 1 (by decide) k_321 rfl d_X8_whyNot_96 ?_
    refine r_get (v := .int 0) C hP 1 rfl rfl lay_X0 2 (by decide) k_174 rfl d_X8_whyNot_99 ?_
    refine b_icmp_ltF C 107 d_X8_whyNot_102 (by decide) (n_nlt (a - 2000) 0 rfl rfl (by omega) (by omega)) ?_
    refine lv_iconst (v := 1) hx hb d_X8_whyNot_105 (by decide) ?_
    exact ret_I (w := [(h0, eO 8 [.ref rd, .ref ho, .ref nw, .ref tr, .ref ts, .ref im, rv]), (ho, eO 0 [.int 0, .int 1, .int 0, .int 0, .int 0, .int 0, .int 0, .int 0, .int 0, .int 0, .ref g1, .ref g2, .ref g3]), (nw, eO 5 [.ref n0, .int 0, .int (nI d), .ref n1, .ref n2, .ref n3])]) C hP hD hS [0, 1, 2] rfl rfl ⟨rfl, rfl⟩ (by decide) (by decide) d_X8_whyNot_106
  · have hc_1 := un_nle 2000 a rfl rfl (by omega) (by omega) hc_1
    refine lv_iconst (v := 1) hx hb d_X8_whyNot_64 (by decide) ?_
    refine lv_goto (tgt := 69) hx hb d_X8_whyNot_65 (by decide) ?_
    refine lv_istore (lv' := [(5, .int 1), (4, .int (nI a)), (0, .ref h0), (1, .ref nw), (2, .long (lN a))]) hx hb d_X8_whyNot_69 hl (by decide) rfl (fun ls hl => ?_)
    refine lv_iload hx hb d_X8_whyNot_71 (lv_at hl 0 rfl) ?_
    refine b_if_eqF C 85 d_X8_whyNot_73 (by decide) (by decide) ?_
    refine lv_iload hx hb d_X8_whyNot_76 (lv_at hl 1 rfl) ?_
    refine lv_sipush (v := 1000) hx hb d_X8_whyNot_78 (by decide) ?_
    refine r_isub (z := (nI (a - 1000))) C d_X8_whyNot_81 (a_sub a 1000 (a - 1000) rfl rfl (by omega)) ?_
    refine lv_goto (tgt := 91) hx hb d_X8_whyNot_82 (by decide) ?_
    refine lv_istore (lv' := [(6, .int (nI (a - 1000))), (5, .int 1), (4, .int (nI a)), (0, .ref h0), (1, .ref nw), (2, .long (lN a))]) hx hb d_X8_whyNot_91 hl (by decide) rfl (fun ls hl => ?_)
    refine lv_iload hx hb d_X8_whyNot_93 (lv_at hl 0 rfl) ?_
    refine lv_aload_n hx hb d_X8_whyNot_95 rfl (lv_at hl 3 rfl) ?_
    refine r_get (v := .ref ho) C hP 0 rfl rfl lay_X8 1 (by decide) k_321 rfl d_X8_whyNot_96 ?_
    refine r_get (v := .int 0) C hP 1 rfl rfl lay_X0 2 (by decide) k_174 rfl d_X8_whyNot_99 ?_
    refine b_icmp_ltF C 107 d_X8_whyNot_102 (by decide) (n_nlt (a - 1000) 0 rfl rfl (by omega) (by omega)) ?_
    refine lv_iconst (v := 1) hx hb d_X8_whyNot_105 (by decide) ?_
    exact ret_I (w := [(h0, eO 8 [.ref rd, .ref ho, .ref nw, .ref tr, .ref ts, .ref im, rv]), (ho, eO 0 [.int 0, .int 1, .int 0, .int 0, .int 0, .int 0, .int 0, .int 0, .int 0, .int 0, .ref g1, .ref g2, .ref g3]), (nw, eO 5 [.ref n0, .int 0, .int (nI d), .ref n1, .ref n2, .ref n3])]) C hP hD hS [0, 1, 2] rfl rfl ⟨rfl, rfl⟩ (by decide) (by decide) d_X8_whyNot_106
set_option maxHeartbeats 4000000 in
set_option maxRecDepth 100000 in
theorem c_wndP (l : Launch) (D : va_G) (ty : Nat → ClassId) (h0 : Nat) (rd : Nat) (ho : Nat) (nw : Nat) (tr : Nat) (ts : Nat) (im : Nat) (g1 : Nat) (g2 : Nat) (g3 : Nat) (n0 : Nat) (n1 : Nat) (n2 : Nat) (n3 : Nat) (rv : Value) (d : Nat) (a : Nat) (ha0 : 1000 ≤ a) (ha : a < 3000) : CC l D ty ⟨"PinchedBill", "whyNotDone", "(LPinchedBill$Standing;J)I"⟩ prog_1_method_63_code 6 (some .int) 1 27 0 0 [.ref h0, .ref nw, .long (lN a)] [(h0, eO 8 [.ref rd, .ref ho, .ref nw, .ref tr, .ref ts, .ref im, rv]), (ho, eO 0 [.int 0, .int 1, .int 0, .int 0, .int 0, .int 0, .int 0, .int 0, .int 0, .int 0, .ref g1, .ref g2, .ref g3]), (nw, eO 5 [.ref n0, .int 0, .int (nI d), .ref n1, .ref n2, .ref n3])] (QI D ty (fun (r : Int32) (w : va_W) => 1 = r ∧ w = [(h0, eO 8 [.ref rd, .ref ho, .ref nw, .ref tr, .ref ts, .ref im, rv]), (ho, eO 0 [.int 0, .int 1, .int 0, .int 0, .int 0, .int 0, .int 0, .int 0, .int 0, .int 0, .ref g1, .ref g2, .ref g3]), (nw, eO 5 [.ref n0, .int 0, .int (nI d), .ref n1, .ref n2, .ref n3])])) := by
  refine CC_of (by decide) ?_
  intro p e s m below meth c A C hP hD hS
  obtain ⟨⟨hx, hb, hml, hown, hts⟩, hr, hlocks, hnm, hK, hE, hA, hZ⟩ := id C
  refine startW [.ref h0, .ref nw, .long (lN a)] 6 (nle rfl) (lv := [(0, .ref h0), (1, .ref nw), (2, .long (lN a))]) rfl (fun ls hl => ?_)
  refine lv_aload_n hx hb d_X8_whyNotDone_0 rfl (lv_at hl 0 rfl) ?_
  refine lv_aload_n hx hb d_X8_whyNotDone_1 rfl (lv_at hl 1 rfl) ?_
  refine lv_lload_n hx hb d_X8_whyNotDone_2 rfl (lv_at hl 2 rfl) ?_
  have ct_1 : Cut [(h0, eO 8 [.ref rd, .ref ho, .ref nw, .ref tr, .ref ts, .ref im, rv]), (ho, eO 0 [.int 0, .int 1, .int 0, .int 0, .int 0, .int 0, .int 0, .int 0, .int 0, .int 0, .ref g1, .ref g2, .ref g3]), (nw, eO 5 [.ref n0, .int 0, .int (nI d), .ref n1, .ref n2, .ref n3])] [(h0, eO 8 [.ref rd, .ref ho, .ref nw, .ref tr, .ref ts, .ref im, rv]), (ho, eO 0 [.int 0, .int 1, .int 0, .int 0, .int 0, .int 0, .int 0, .int 0, .int 0, .int 0, .ref g1, .ref g2, .ref g3]), (nw, eO 5 [.ref n0, .int 0, .int (nI d), .ref n1, .ref n2, .ref n3])] [] [0, 1, 2] [] := ⟨rfl, rfl, rfl, rfl, by decide⟩
  refine cont_I C hP hD hS ct_1 (run_V (As := [.ref nw, .long (lN a)]) (rest := []) C hP hD hS ct_1 (c_whyP l D ty h0 rd ho nw tr ts im g1 g2 g3 n0 n1 n2 n3 rv d a ha0 ha) kV_PinchedBill_163 0 rfl rfl rfl rfl hl.1 rfl (nle rfl) d_X8_whyNotDone_3 ⟨by decide, by decide, by decide, by decide⟩) (fun r_3 w_4 H locs hw_2 hP hD hS => ?_)
  obtain ⟨rfl, rfl⟩ := hw_2
  have hP : va_P D vwCl [(h0, eO 8 [.ref rd, .ref ho, .ref nw, .ref tr, .ref ts, .ref im, rv]), (ho, eO 0 [.int 0, .int 1, .int 0, .int 0, .int 0, .int 0, .int 0, .int 0, .int 0, .int 0, .ref g1, .ref g2, .ref g3]), (nw, eO 5 [.ref n0, .int 0, .int (nI d), .ref n1, .ref n2, .ref n3])] H := hP
  have hD : va_D A [(h0, eO 8 [.ref rd, .ref ho, .ref nw, .ref tr, .ref ts, .ref im, rv]), (ho, eO 0 [.int 0, .int 1, .int 0, .int 0, .int 0, .int 0, .int 0, .int 0, .int 0, .int 0, .ref g1, .ref g2, .ref g3]), (nw, eO 5 [.ref n0, .int 0, .int (nI d), .ref n1, .ref n2, .ref n3])] := hD
  refine lv_istore (lv' := [(4, .int 1), (0, .ref h0), (1, .ref nw), (2, .long (lN a))]) hx hb d_X8_whyNotDone_6 hl (by decide) rfl (fun ls hl => ?_)
  refine lv_iload hx hb d_X8_whyNotDone_8 (lv_at hl 0 rfl) ?_
  refine b_if_eqF C 16 d_X8_whyNotDone_10 (by decide) (by decide) ?_
  refine lv_iload hx hb d_X8_whyNotDone_13 (lv_at hl 0 rfl) ?_
  exact ret_I (w := [(h0, eO 8 [.ref rd, .ref ho, .ref nw, .ref tr, .ref ts, .ref im, rv]), (ho, eO 0 [.int 0, .int 1, .int 0, .int 0, .int 0, .int 0, .int 0, .int 0, .int 0, .int 0, .ref g1, .ref g2, .ref g3]), (nw, eO 5 [.ref n0, .int 0, .int (nI d), .ref n1, .ref n2, .ref n3])]) C hP hD hS [0, 1, 2] rfl rfl ⟨rfl, rfl⟩ (by decide) (by decide) d_X8_whyNotDone_15
set_option maxHeartbeats 4000000 in
set_option maxRecDepth 100000 in
theorem c_wndB (l : Launch) (D : va_G) (ty : Nat → ClassId) (h0 : Nat) (rd : Nat) (ho : Nat) (nw : Nat) (tr : Nat) (ts : Nat) (im : Nat) (g1 : Nat) (g2 : Nat) (g3 : Nat) (n0 : Nat) (n1 : Nat) (n2 : Nat) (n3 : Nat) (rv : Value) (d : Nat) (bb : Nat) (pa : Nat → Int32) (pb : Nat → Int32) (pc_ : Nat → Int32) (a : Nat) (hd : d < 11) (hbb : bb < 1000) (ha : a < 1000) : CC l D ty ⟨"PinchedBill", "whyNotDone", "(LPinchedBill$Standing;J)I"⟩ prog_1_method_63_code 6 (some .int) 3 80 0 0 [.ref h0, .ref nw, .long (lN a)] [(h0, eO 8 [.ref rd, .ref ho, .ref nw, .ref tr, .ref ts, .ref im, rv]), (ho, eO 0 [.int 0, .int 1, .int 0, .int 0, .int 0, .int 0, .int 0, .int 0, .int 0, .int 0, .ref g1, .ref g2, .ref g3]), (nw, eO 5 [.ref n0, .int 0, .int (nI d), .ref n1, .ref n2, .ref n3]), (n0, eO 7 [.int (nI bb), .int (-1)]), (n1, eI (ty 0) 10 pa), (n2, eI (ty 0) 10 pb), (n3, eI (ty 0) 10 pc_)] (QI D ty (fun (r : Int32) (w : va_W) => ∃ (d9 : Nat) (b9 : Nat) (pa9 : Nat → Int32) (pb9 : Nat → Int32) (pc9 : Nat → Int32), (d9 < 11) ∧ (b9 < 1000) ∧ (wB a) = r ∧ w = [(h0, eO 8 [.ref rd, .ref ho, .ref nw, .ref tr, .ref ts, .ref im, rv]), (ho, eO 0 [.int 0, .int 1, .int 0, .int 0, .int 0, .int 0, .int 0, .int 0, .int 0, .int 0, .ref g1, .ref g2, .ref g3]), (nw, eO 5 [.ref n0, .int 0, .int (nI d9), .ref n1, .ref n2, .ref n3]), (n0, eO 7 [.int (nI b9), .int (-1)]), (n1, eI (ty 0) 10 pa9), (n2, eI (ty 0) 10 pb9), (n3, eI (ty 0) 10 pc9)])) := by
  refine CC_of (by decide) ?_
  intro p e s m below meth c A C hP hD hS
  obtain ⟨⟨hx, hb, hml, hown, hts⟩, hr, hlocks, hnm, hK, hE, hA, hZ⟩ := id C
  refine startW [.ref h0, .ref nw, .long (lN a)] 6 (nle rfl) (lv := [(0, .ref h0), (1, .ref nw), (2, .long (lN a))]) rfl (fun ls hl => ?_)
  refine lv_aload_n hx hb d_X8_whyNotDone_0 rfl (lv_at hl 0 rfl) ?_
  refine lv_aload_n hx hb d_X8_whyNotDone_1 rfl (lv_at hl 1 rfl) ?_
  refine lv_lload_n hx hb d_X8_whyNotDone_2 rfl (lv_at hl 2 rfl) ?_
  have ct_1 : Cut [(h0, eO 8 [.ref rd, .ref ho, .ref nw, .ref tr, .ref ts, .ref im, rv]), (ho, eO 0 [.int 0, .int 1, .int 0, .int 0, .int 0, .int 0, .int 0, .int 0, .int 0, .int 0, .ref g1, .ref g2, .ref g3]), (nw, eO 5 [.ref n0, .int 0, .int (nI d), .ref n1, .ref n2, .ref n3]), (n0, eO 7 [.int (nI bb), .int (-1)]), (n1, eI (ty 0) 10 pa), (n2, eI (ty 0) 10 pb), (n3, eI (ty 0) 10 pc_)] [(h0, eO 8 [.ref rd, .ref ho, .ref nw, .ref tr, .ref ts, .ref im, rv]), (ho, eO 0 [.int 0, .int 1, .int 0, .int 0, .int 0, .int 0, .int 0, .int 0, .int 0, .int 0, .ref g1, .ref g2, .ref g3]), (nw, eO 5 [.ref n0, .int 0, .int (nI d), .ref n1, .ref n2, .ref n3])] [(n0, eO 7 [.int (nI bb), .int (-1)]), (n1, eI (ty 0) 10 pa), (n2, eI (ty 0) 10 pb), (n3, eI (ty 0) 10 pc_)] [0, 1, 2] [3, 4, 5, 6] := ⟨rfl, rfl, rfl, rfl, by decide⟩
  refine cont_I C hP hD hS ct_1 (run_V (As := [.ref nw, .long (lN a)]) (rest := []) C hP hD hS ct_1 (c_whyB l D ty h0 rd ho nw tr ts im g1 g2 g3 n0 n1 n2 n3 rv d a ha) kV_PinchedBill_163 0 rfl rfl rfl rfl hl.1 rfl (nle rfl) d_X8_whyNotDone_3 ⟨by decide, by decide, by decide, by decide⟩) (fun r_3 w_4 H locs hw_2 hP hD hS => ?_)
  obtain ⟨rfl, rfl⟩ := hw_2
  have hP : va_P D vwCl [(n0, eO 7 [.int (nI bb), .int (-1)]), (n1, eI (ty 0) 10 pa), (n2, eI (ty 0) 10 pb), (n3, eI (ty 0) 10 pc_), (h0, eO 8 [.ref rd, .ref ho, .ref nw, .ref tr, .ref ts, .ref im, rv]), (ho, eO 0 [.int 0, .int 1, .int 0, .int 0, .int 0, .int 0, .int 0, .int 0, .int 0, .int 0, .ref g1, .ref g2, .ref g3]), (nw, eO 5 [.ref n0, .int 0, .int (nI d), .ref n1, .ref n2, .ref n3])] H := hP
  have hD : va_D A [(n0, eO 7 [.int (nI bb), .int (-1)]), (n1, eI (ty 0) 10 pa), (n2, eI (ty 0) 10 pb), (n3, eI (ty 0) 10 pc_), (h0, eO 8 [.ref rd, .ref ho, .ref nw, .ref tr, .ref ts, .ref im, rv]), (ho, eO 0 [.int 0, .int 1, .int 0, .int 0, .int 0, .int 0, .int 0, .int 0, .int 0, .int 0, .ref g1, .ref g2, .ref g3]), (nw, eO 5 [.ref n0, .int 0, .int (nI d), .ref n1, .ref n2, .ref n3])] := hD
  refine lv_istore (lv' := [(4, .int (wB a)), (0, .ref h0), (1, .ref nw), (2, .long (lN a))]) hx hb d_X8_whyNotDone_6 hl (by decide) rfl (fun ls hl => ?_)
  refine lv_iload hx hb d_X8_whyNotDone_8 (lv_at hl 0 rfl) ?_
  refine lv_if_eq (tgt := 16) hx hb d_X8_whyNotDone_10 (by decide) (fun hc_5 => ?_) (fun hc_5 => ?_)
  · refine lv_lload_n hx hb d_X8_whyNotDone_16 rfl (lv_at hl 3 rfl) ?_
    refine lv_l2i (v := (nI a)) hx hb d_X8_whyNotDone_17 (lN_i _) ?_
    refine lv_istore (lv' := [(5, .int (nI a)), (4, .int (wB a)), (0, .ref h0), (1, .ref nw), (2, .long (lN a))]) hx hb d_X8_whyNotDone_18 hl (by decide) rfl (fun ls hl => ?_)
    refine lv_aload_n hx hb d_X8_whyNotDone_20 rfl (lv_at hl 3 rfl) ?_
    have ct_6 : Cut [(n0, eO 7 [.int (nI bb), .int (-1)]), (n1, eI (ty 0) 10 pa), (n2, eI (ty 0) 10 pb), (n3, eI (ty 0) 10 pc_), (h0, eO 8 [.ref rd, .ref ho, .ref nw, .ref tr, .ref ts, .ref im, rv]), (ho, eO 0 [.int 0, .int 1, .int 0, .int 0, .int 0, .int 0, .int 0, .int 0, .int 0, .int 0, .ref g1, .ref g2, .ref g3]), (nw, eO 5 [.ref n0, .int 0, .int (nI d), .ref n1, .ref n2, .ref n3])] [(nw, eO 5 [.ref n0, .int 0, .int (nI d), .ref n1, .ref n2, .ref n3]), (n0, eO 7 [.int (nI bb), .int (-1)]), (n1, eI (ty 0) 10 pa), (n2, eI (ty 0) 10 pb), (n3, eI (ty 0) 10 pc_)] [(h0, eO 8 [.ref rd, .ref ho, .ref nw, .ref tr, .ref ts, .ref im, rv]), (ho, eO 0 [.int 0, .int 1, .int 0, .int 0, .int 0, .int 0, .int 0, .int 0, .int 0, .int 0, .ref g1, .ref g2, .ref g3])] [6, 0, 1, 2, 3] [4, 5] := ⟨rfl, rfl, rfl, rfl, by decide⟩
    refine cont_V C hP hD hS ct_6 (run_V (As := []) (rest := []) C hP hD hS ct_6 (c_record l D ty nw n0 n1 n2 n3 (nI bb) (-1) d pa pb pc_ hd) kV_PinchedBill_125 6 rfl rfl rfl rfl hl.1 rfl (nle rfl) d_X8_whyNotDone_21 ⟨by decide, by decide, by decide, by decide⟩) (fun w_13 H locs hw_11 hP hD hS => ?_)
    obtain ⟨d9_7, pa9_8, pb9_9, pc9_10, hd9_14, rfl⟩ := hw_11
    have hP : va_P D vwCl [(h0, eO 8 [.ref rd, .ref ho, .ref nw, .ref tr, .ref ts, .ref im, rv]), (ho, eO 0 [.int 0, .int 1, .int 0, .int 0, .int 0, .int 0, .int 0, .int 0, .int 0, .int 0, .ref g1, .ref g2, .ref g3]), (nw, eO 5 [.ref n0, .int 0, .int (nI d9_7), .ref n1, .ref n2, .ref n3]), (n0, eO 7 [.int (nI bb), .int (-1)]), (n1, eI (ty 0) 10 pa9_8), (n2, eI (ty 0) 10 pb9_9), (n3, eI (ty 0) 10 pc9_10)] H := hP
    have hD : va_D A [(h0, eO 8 [.ref rd, .ref ho, .ref nw, .ref tr, .ref ts, .ref im, rv]), (ho, eO 0 [.int 0, .int 1, .int 0, .int 0, .int 0, .int 0, .int 0, .int 0, .int 0, .int 0, .ref g1, .ref g2, .ref g3]), (nw, eO 5 [.ref n0, .int 0, .int (nI d9_7), .ref n1, .ref n2, .ref n3]), (n0, eO 7 [.int (nI bb), .int (-1)]), (n1, eI (ty 0) 10 pa9_8), (n2, eI (ty 0) 10 pb9_9), (n3, eI (ty 0) 10 pc9_10)] := hD
    refine lv_iload hx hb d_X8_whyNotDone_24 (lv_at hl 0 rfl) ?_
    refine lv_iconst (v := (-1)) hx hb d_X8_whyNotDone_26 (by decide) ?_
    refine b_icmp_neT C 49 d_X8_whyNotDone_27 (by decide) (n_neneg a rfl (by omega) (by decide)) ?_
    refine lv_iload hx hb d_X8_whyNotDone_49 (lv_at hl 0 rfl) ?_
    refine lv_sipush (v := 1000) hx hb d_X8_whyNotDone_51 (by decide) ?_
    refine b_icmp_geF C 69 d_X8_whyNotDone_54 (by decide) (n_nle 1000 a rfl rfl (by omega) (by omega)) ?_
    refine lv_aload_n hx hb d_X8_whyNotDone_57 rfl (lv_at hl 3 rfl) ?_
    refine r_get (v := .ref n0) C hP 2 rfl rfl lay_X5 0 (by decide) k_295 rfl d_X8_whyNotDone_58 ?_
    refine lv_iload hx hb d_X8_whyNotDone_61 (lv_at hl 0 rfl) ?_
    have ct_15 : Cut [(h0, eO 8 [.ref rd, .ref ho, .ref nw, .ref tr, .ref ts, .ref im, rv]), (ho, eO 0 [.int 0, .int 1, .int 0, .int 0, .int 0, .int 0, .int 0, .int 0, .int 0, .int 0, .ref g1, .ref g2, .ref g3]), (nw, eO 5 [.ref n0, .int 0, .int (nI d9_7), .ref n1, .ref n2, .ref n3]), (n0, eO 7 [.int (nI bb), .int (-1)]), (n1, eI (ty 0) 10 pa9_8), (n2, eI (ty 0) 10 pb9_9), (n3, eI (ty 0) 10 pc9_10)] [(n0, eO 7 [.int (nI bb), .int (-1)])] [(h0, eO 8 [.ref rd, .ref ho, .ref nw, .ref tr, .ref ts, .ref im, rv]), (ho, eO 0 [.int 0, .int 1, .int 0, .int 0, .int 0, .int 0, .int 0, .int 0, .int 0, .int 0, .ref g1, .ref g2, .ref g3]), (nw, eO 5 [.ref n0, .int 0, .int (nI d9_7), .ref n1, .ref n2, .ref n3]), (n1, eI (ty 0) 10 pa9_8), (n2, eI (ty 0) 10 pb9_9), (n3, eI (ty 0) 10 pc9_10)] [3] [0, 1, 2, 4, 5, 6] := ⟨rfl, rfl, rfl, rfl, by decide⟩
    refine cont_V C hP hD hS ct_15 (run_V (As := [.int (nI a)]) (rest := []) C hP hD hS ct_15 (c_start l D ty n0 (nI bb) (-1) (nI a)) kV_PinchedBill_367 3 rfl rfl rfl rfl hl.1 rfl (nle rfl) d_X8_whyNotDone_63 ⟨by decide, by decide, by decide, by decide⟩) (fun w_18 H locs hw_16 hP hD hS => ?_)
    subst hw_16
    have hP : va_P D vwCl [(h0, eO 8 [.ref rd, .ref ho, .ref nw, .ref tr, .ref ts, .ref im, rv]), (ho, eO 0 [.int 0, .int 1, .int 0, .int 0, .int 0, .int 0, .int 0, .int 0, .int 0, .int 0, .ref g1, .ref g2, .ref g3]), (nw, eO 5 [.ref n0, .int 0, .int (nI d9_7), .ref n1, .ref n2, .ref n3]), (n1, eI (ty 0) 10 pa9_8), (n2, eI (ty 0) 10 pb9_9), (n3, eI (ty 0) 10 pc9_10), (n0, eO 7 [.int (nI a), .int (-1)])] H := hP
    have hD : va_D A [(h0, eO 8 [.ref rd, .ref ho, .ref nw, .ref tr, .ref ts, .ref im, rv]), (ho, eO 0 [.int 0, .int 1, .int 0, .int 0, .int 0, .int 0, .int 0, .int 0, .int 0, .int 0, .ref g1, .ref g2, .ref g3]), (nw, eO 5 [.ref n0, .int 0, .int (nI d9_7), .ref n1, .ref n2, .ref n3]), (n1, eI (ty 0) 10 pa9_8), (n2, eI (ty 0) 10 pb9_9), (n3, eI (ty 0) 10 pc9_10), (n0, eO 7 [.int (nI a), .int (-1)])] := hD
    refine lv_goto (tgt := 116) hx hb d_X8_whyNotDone_66 (by decide) ?_
    refine lv_iconst (v := 0) hx hb d_X8_whyNotDone_116 (by decide) ?_
    exact ret_I (w := [(h0, eO 8 [.ref rd, .ref ho, .ref nw, .ref tr, .ref ts, .ref im, rv]), (ho, eO 0 [.int 0, .int 1, .int 0, .int 0, .int 0, .int 0, .int 0, .int 0, .int 0, .int 0, .ref g1, .ref g2, .ref g3]), (nw, eO 5 [.ref n0, .int 0, .int (nI d9_7), .ref n1, .ref n2, .ref n3]), (n0, eO 7 [.int (nI a), .int (-1)]), (n1, eI (ty 0) 10 pa9_8), (n2, eI (ty 0) 10 pb9_9), (n3, eI (ty 0) 10 pc9_10)]) C hP hD hS [0, 1, 2, 6, 3, 4, 5] rfl rfl ⟨d9_7, a, pa9_8, pb9_9, pc9_10, (by omega), (by omega), (Eq.symm hc_5.symm), rfl⟩ (by decide) (by decide) d_X8_whyNotDone_117
  · refine lv_iload hx hb d_X8_whyNotDone_13 (lv_at hl 0 rfl) ?_
    exact ret_I (w := [(h0, eO 8 [.ref rd, .ref ho, .ref nw, .ref tr, .ref ts, .ref im, rv]), (ho, eO 0 [.int 0, .int 1, .int 0, .int 0, .int 0, .int 0, .int 0, .int 0, .int 0, .int 0, .ref g1, .ref g2, .ref g3]), (nw, eO 5 [.ref n0, .int 0, .int (nI d), .ref n1, .ref n2, .ref n3]), (n0, eO 7 [.int (nI bb), .int (-1)]), (n1, eI (ty 0) 10 pa), (n2, eI (ty 0) 10 pb), (n3, eI (ty 0) 10 pc_)]) C hP hD hS [4, 5, 6, 0, 1, 2, 3] rfl rfl ⟨d, bb, pa, pb, pc_, (by omega), (by omega), rfl, rfl⟩ (by decide) (by decide) d_X8_whyNotDone_15
set_option maxHeartbeats 4000000 in
set_option maxRecDepth 100000 in
theorem c_reckoned2 (l : Launch) (D : va_G) (ty : Nat → ClassId) (h0 : Nat) (rd : Nat) (ho : Nat) (nw : Nat) (tr : Nat) (ts : Nat) (im : Nat) (rk : Nat) (lw : Nat) (w1 : Nat) (w2 : Nat) (m1 : Nat) (m2 : Nat) (m3 : Nat) (m4 : Nat) (m5 : Nat) (m6 : Nat) (m7 : Nat) (z0 : Int32) (z1 : Int32) (z2 : Int32) (z3 : Int32) (z4 : Int32) (z5 : Int32) (z6 : Int32) : CC l D ty ⟨"PinchedBill", "reckoned", "()LPinchedBill$Reckoner;"⟩ prog_1_method_57_code 1 (some (.object "PinchedBill$Reckoner")) 0 0 0 0 [.ref h0] [(h0, eO 8 [.ref rd, .ref ho, .ref nw, .ref tr, .ref ts, .ref im, .ref rk]), (rk, eO 4 [.ref lw, .ref w1, .ref w2, .int z1, .int z2, .int z3, .ref ho, .ref m1, .int z0, .ref m2, .ref m3, .int z4, .ref m4, .int z5, .ref m5, .ref m6, .ref m7, .int z6])] (QR D ty (fun (r : Nat) (w : va_W) => rk = r ∧ w = [(h0, eO 8 [.ref rd, .ref ho, .ref nw, .ref tr, .ref ts, .ref im, .ref rk]), (rk, eO 4 [.ref lw, .ref w1, .ref w2, .int z1, .int z2, .int z3, .ref ho, .ref m1, .int z0, .ref m2, .ref m3, .int z4, .ref m4, .int z5, .ref m5, .ref m6, .ref m7, .int z6])])) := by
  refine CC_of (by decide) ?_
  intro p e s m below meth c A C hP hD hS
  obtain ⟨⟨hx, hb, hml, hown, hts⟩, hr, hlocks, hnm, hK, hE, hA, hZ⟩ := id C
  refine startW [.ref h0] 1 (nle rfl) (lv := [(0, .ref h0)]) rfl (fun ls hl => ?_)
  refine lv_aload_n hx hb d_X8_reckoned_0 rfl (lv_at hl 0 rfl) ?_
  refine r_get (v := .ref rk) C hP 0 rfl rfl lay_X8 6 (by decide) k_326 rfl d_X8_reckoned_1 ?_
  refine lv_ifnonnull (tgt := 22) hx hb d_X8_reckoned_4 (by decide) ?_
  refine lv_aload_n hx hb d_X8_reckoned_22 rfl (lv_at hl 0 rfl) ?_
  refine r_get (v := .ref rk) C hP 0 rfl rfl lay_X8 6 (by decide) k_326 rfl d_X8_reckoned_23 ?_
  exact ret_R (w := [(h0, eO 8 [.ref rd, .ref ho, .ref nw, .ref tr, .ref ts, .ref im, .ref rk]), (rk, eO 4 [.ref lw, .ref w1, .ref w2, .int z1, .int z2, .int z3, .ref ho, .ref m1, .int z0, .ref m2, .ref m3, .int z4, .ref m4, .int z5, .ref m5, .ref m6, .ref m7, .int z6])]) C hP hD hS [0, 1] rfl rfl ⟨rfl, rfl⟩ (by decide) (by decide) d_X8_reckoned_26
set_option maxHeartbeats 4000000 in
set_option maxRecDepth 100000 in
theorem c_lawBook2 (l : Launch) (D : va_G) (ty : Nat → ClassId) (h0 : Nat) (rd : Nat) (ho : Nat) (nw : Nat) (tr : Nat) (ts : Nat) (im : Nat) (rk : Nat) (lw : Nat) (w1 : Nat) (w2 : Nat) (m1 : Nat) (m2 : Nat) (m3 : Nat) (m4 : Nat) (m5 : Nat) (m6 : Nat) (m7 : Nat) (z0 : Int32) (z1 : Int32) (z2 : Int32) (z3 : Int32) (z4 : Int32) (z5 : Int32) (z6 : Int32) : CC l D ty ⟨"PinchedBill", "lawBook", "()LPinchedBill$Laws;"⟩ prog_1_method_58_code 1 (some (.object "PinchedBill$Laws")) 1 20 0 0 [.ref h0] [(h0, eO 8 [.ref rd, .ref ho, .ref nw, .ref tr, .ref ts, .ref im, .ref rk]), (rk, eO 4 [.ref lw, .ref w1, .ref w2, .int z1, .int z2, .int z3, .ref ho, .ref m1, .int z0, .ref m2, .ref m3, .int z4, .ref m4, .int z5, .ref m5, .ref m6, .ref m7, .int z6])] (QR D ty (fun (r : Nat) (w : va_W) => lw = r ∧ w = [(h0, eO 8 [.ref rd, .ref ho, .ref nw, .ref tr, .ref ts, .ref im, .ref rk]), (rk, eO 4 [.ref lw, .ref w1, .ref w2, .int z1, .int z2, .int z3, .ref ho, .ref m1, .int z0, .ref m2, .ref m3, .int z4, .ref m4, .int z5, .ref m5, .ref m6, .ref m7, .int z6])])) := by
  refine CC_of (by decide) ?_
  intro p e s m below meth c A C hP hD hS
  obtain ⟨⟨hx, hb, hml, hown, hts⟩, hr, hlocks, hnm, hK, hE, hA, hZ⟩ := id C
  refine startW [.ref h0] 1 (nle rfl) (lv := [(0, .ref h0)]) rfl (fun ls hl => ?_)
  refine lv_aload_n hx hb d_X8_lawBook_0 rfl (lv_at hl 0 rfl) ?_
  have ct_1 : Cut [(h0, eO 8 [.ref rd, .ref ho, .ref nw, .ref tr, .ref ts, .ref im, .ref rk]), (rk, eO 4 [.ref lw, .ref w1, .ref w2, .int z1, .int z2, .int z3, .ref ho, .ref m1, .int z0, .ref m2, .ref m3, .int z4, .ref m4, .int z5, .ref m5, .ref m6, .ref m7, .int z6])] [(h0, eO 8 [.ref rd, .ref ho, .ref nw, .ref tr, .ref ts, .ref im, .ref rk]), (rk, eO 4 [.ref lw, .ref w1, .ref w2, .int z1, .int z2, .int z3, .ref ho, .ref m1, .int z0, .ref m2, .ref m3, .int z4, .ref m4, .int z5, .ref m5, .ref m6, .ref m7, .int z6])] [] [0, 1] [] := ⟨rfl, rfl, rfl, rfl, by decide⟩
  refine cont_R C hP hD hS ct_1 (run_V (As := []) (rest := []) C hP hD hS ct_1 (c_reckoned2 l D ty h0 rd ho nw tr ts im rk lw w1 w2 m1 m2 m3 m4 m5 m6 m7 z0 z1 z2 z3 z4 z5 z6) kV_PinchedBill_184 0 rfl rfl rfl rfl hl.1 rfl (nle rfl) d_X8_lawBook_1 ⟨by decide, by decide, by decide, by decide⟩) (fun r_3 w_4 H locs hw_2 hP hD hS => ?_)
  obtain ⟨rfl, rfl⟩ := hw_2
  have hP : va_P D vwCl [(h0, eO 8 [.ref rd, .ref ho, .ref nw, .ref tr, .ref ts, .ref im, .ref rk]), (rk, eO 4 [.ref lw, .ref w1, .ref w2, .int z1, .int z2, .int z3, .ref ho, .ref m1, .int z0, .ref m2, .ref m3, .int z4, .ref m4, .int z5, .ref m5, .ref m6, .ref m7, .int z6])] H := hP
  have hD : va_D A [(h0, eO 8 [.ref rd, .ref ho, .ref nw, .ref tr, .ref ts, .ref im, .ref rk]), (rk, eO 4 [.ref lw, .ref w1, .ref w2, .int z1, .int z2, .int z3, .ref ho, .ref m1, .int z0, .ref m2, .ref m3, .int z4, .ref m4, .int z5, .ref m5, .ref m6, .ref m7, .int z6])] := hD
  refine r_get (v := .ref lw) C hP 1 rfl rfl lay_X4 0 (by decide) k_405 rfl d_X8_lawBook_4 ?_
  exact ret_R (w := [(h0, eO 8 [.ref rd, .ref ho, .ref nw, .ref tr, .ref ts, .ref im, .ref rk]), (rk, eO 4 [.ref lw, .ref w1, .ref w2, .int z1, .int z2, .int z3, .ref ho, .ref m1, .int z0, .ref m2, .ref m3, .int z4, .ref m4, .int z5, .ref m5, .ref m6, .ref m7, .int z6])]) C hP hD hS [0, 1] rfl rfl ⟨rfl, rfl⟩ (by decide) (by decide) d_X8_lawBook_7
set_option maxHeartbeats 4000000 in
set_option maxRecDepth 100000 in
theorem c_wndMB (l : Launch) (D : va_G) (ty : Nat → ClassId) (h0 : Nat) (rd : Nat) (ho : Nat) (nw : Nat) (tr : Nat) (ts : Nat) (im : Nat) (g1 : Nat) (g2 : Nat) (g3 : Nat) (n0 : Nat) (n1 : Nat) (n2 : Nat) (n3 : Nat) (d : Nat) (bb : Nat) (pa : Nat → Int32) (pb : Nat → Int32) (pc_ : Nat → Int32) (rk : Nat) (lw : Nat) (l1 : Nat) (l2 : Nat) (l3 : Nat) (l4 : Nat) (w1 : Nat) (w2 : Nat) (m1 : Nat) (m2 : Nat) (m3 : Nat) (m4 : Nat) (m5 : Nat) (m6 : Nat) (m7 : Nat) (z0 : Int32) (z1 : Int32) (z2 : Int32) (z3 : Int32) (z4 : Int32) (z5 : Int32) (z6 : Int32) (f : Nat → Int32) (v : Nat → Int32) (hd : d < 11) (hbb : bb < 1000) (hf : B01 f) : CC l D ty ⟨"PinchedBill", "whyNotDone", "(LPinchedBill$Standing;J)I"⟩ prog_1_method_63_code 6 (some .int) 4 90 0 0 [.ref h0, .ref nw, .long (-1)] [(h0, eO 8 [.ref rd, .ref ho, .ref nw, .ref tr, .ref ts, .ref im, .ref rk]), (ho, eO 0 [.int 0, .int 1, .int 0, .int 0, .int 0, .int 0, .int 0, .int 0, .int 0, .int 0, .ref g1, .ref g2, .ref g3]), (nw, eO 5 [.ref n0, .int 0, .int (nI d), .ref n1, .ref n2, .ref n3]), (n0, eO 7 [.int (nI bb), .int (-1)]), (n1, eI (ty 0) 10 pa), (n2, eI (ty 0) 10 pb), (n3, eI (ty 0) 10 pc_), (rk, eO 4 [.ref lw, .ref w1, .ref w2, .int z1, .int z2, .int z3, .ref ho, .ref m1, .int z0, .ref m2, .ref m3, .int z4, .ref m4, .int z5, .ref m5, .ref m6, .ref m7, .int z6]), (lw, eO 2 [.ref ho, .ref l1, .ref l2, .ref l3, .ref l4]), (l1, eI (ty 0) 1000 f), (l3, eI (ty 0) 8 v)] (QI D ty (fun (r : Int32) (w : va_W) => ∃ (d9 : Nat) (b9 : Nat) (pa9 : Nat → Int32) (pb9 : Nat → Int32) (pc9 : Nat → Int32) (f9 : Nat → Int32) (v9 : Nat → Int32), (d9 < 11) ∧ (b9 < 1000) ∧ (B01 f9) ∧ 0 = r ∧ w = [(h0, eO 8 [.ref rd, .ref ho, .ref nw, .ref tr, .ref ts, .ref im, .ref rk]), (ho, eO 0 [.int 0, .int 1, .int 0, .int 0, .int 0, .int 0, .int 0, .int 0, .int 0, .int 0, .ref g1, .ref g2, .ref g3]), (nw, eO 5 [.ref n0, .int 0, .int (nI d9), .ref n1, .ref n2, .ref n3]), (n0, eO 7 [.int (nI b9), .int (-1)]), (n1, eI (ty 0) 10 pa9), (n2, eI (ty 0) 10 pb9), (n3, eI (ty 0) 10 pc9), (rk, eO 4 [.ref lw, .ref w1, .ref w2, .int z1, .int z2, .int z3, .ref ho, .ref m1, .int z0, .ref m2, .ref m3, .int z4, .ref m4, .int z5, .ref m5, .ref m6, .ref m7, .int z6]), (lw, eO 2 [.ref ho, .ref l1, .ref l2, .ref l3, .ref l4]), (l1, eI (ty 0) 1000 f9), (l3, eI (ty 0) 8 v9)])) := by
  refine CC_of (by decide) ?_
  intro p e s m below meth c A C hP hD hS
  obtain ⟨⟨hx, hb, hml, hown, hts⟩, hr, hlocks, hnm, hK, hE, hA, hZ⟩ := id C
  refine startW [.ref h0, .ref nw, .long (-1)] 6 (nle rfl) (lv := [(0, .ref h0), (1, .ref nw), (2, .long (-1))]) rfl (fun ls hl => ?_)
  refine lv_aload_n hx hb d_X8_whyNotDone_0 rfl (lv_at hl 0 rfl) ?_
  refine lv_aload_n hx hb d_X8_whyNotDone_1 rfl (lv_at hl 1 rfl) ?_
  refine lv_lload_n hx hb d_X8_whyNotDone_2 rfl (lv_at hl 2 rfl) ?_
  have ct_1 : Cut [(h0, eO 8 [.ref rd, .ref ho, .ref nw, .ref tr, .ref ts, .ref im, .ref rk]), (ho, eO 0 [.int 0, .int 1, .int 0, .int 0, .int 0, .int 0, .int 0, .int 0, .int 0, .int 0, .ref g1, .ref g2, .ref g3]), (nw, eO 5 [.ref n0, .int 0, .int (nI d), .ref n1, .ref n2, .ref n3]), (n0, eO 7 [.int (nI bb), .int (-1)]), (n1, eI (ty 0) 10 pa), (n2, eI (ty 0) 10 pb), (n3, eI (ty 0) 10 pc_), (rk, eO 4 [.ref lw, .ref w1, .ref w2, .int z1, .int z2, .int z3, .ref ho, .ref m1, .int z0, .ref m2, .ref m3, .int z4, .ref m4, .int z5, .ref m5, .ref m6, .ref m7, .int z6]), (lw, eO 2 [.ref ho, .ref l1, .ref l2, .ref l3, .ref l4]), (l1, eI (ty 0) 1000 f), (l3, eI (ty 0) 8 v)] [(h0, eO 8 [.ref rd, .ref ho, .ref nw, .ref tr, .ref ts, .ref im, .ref rk]), (ho, eO 0 [.int 0, .int 1, .int 0, .int 0, .int 0, .int 0, .int 0, .int 0, .int 0, .int 0, .ref g1, .ref g2, .ref g3]), (nw, eO 5 [.ref n0, .int 0, .int (nI d), .ref n1, .ref n2, .ref n3])] [(n0, eO 7 [.int (nI bb), .int (-1)]), (n1, eI (ty 0) 10 pa), (n2, eI (ty 0) 10 pb), (n3, eI (ty 0) 10 pc_), (rk, eO 4 [.ref lw, .ref w1, .ref w2, .int z1, .int z2, .int z3, .ref ho, .ref m1, .int z0, .ref m2, .ref m3, .int z4, .ref m4, .int z5, .ref m5, .ref m6, .ref m7, .int z6]), (lw, eO 2 [.ref ho, .ref l1, .ref l2, .ref l3, .ref l4]), (l1, eI (ty 0) 1000 f), (l3, eI (ty 0) 8 v)] [0, 1, 2] [3, 4, 5, 6, 7, 8, 9, 10] := ⟨rfl, rfl, rfl, rfl, by decide⟩
  refine cont_I C hP hD hS ct_1 (run_V (As := [.ref nw, .long (-1)]) (rest := []) C hP hD hS ct_1 (c_whyM l D ty h0 rd ho nw tr ts im g1 g2 g3 n0 n1 n2 n3 (.ref rk) d) kV_PinchedBill_163 0 rfl rfl rfl rfl hl.1 rfl (nle rfl) d_X8_whyNotDone_3 ⟨by decide, by decide, by decide, by decide⟩) (fun r_3 w_4 H locs hw_2 hP hD hS => ?_)
  obtain ⟨rfl, rfl⟩ := hw_2
  have hP : va_P D vwCl [(n0, eO 7 [.int (nI bb), .int (-1)]), (n1, eI (ty 0) 10 pa), (n2, eI (ty 0) 10 pb), (n3, eI (ty 0) 10 pc_), (rk, eO 4 [.ref lw, .ref w1, .ref w2, .int z1, .int z2, .int z3, .ref ho, .ref m1, .int z0, .ref m2, .ref m3, .int z4, .ref m4, .int z5, .ref m5, .ref m6, .ref m7, .int z6]), (lw, eO 2 [.ref ho, .ref l1, .ref l2, .ref l3, .ref l4]), (l1, eI (ty 0) 1000 f), (l3, eI (ty 0) 8 v), (h0, eO 8 [.ref rd, .ref ho, .ref nw, .ref tr, .ref ts, .ref im, .ref rk]), (ho, eO 0 [.int 0, .int 1, .int 0, .int 0, .int 0, .int 0, .int 0, .int 0, .int 0, .int 0, .ref g1, .ref g2, .ref g3]), (nw, eO 5 [.ref n0, .int 0, .int (nI d), .ref n1, .ref n2, .ref n3])] H := hP
  have hD : va_D A [(n0, eO 7 [.int (nI bb), .int (-1)]), (n1, eI (ty 0) 10 pa), (n2, eI (ty 0) 10 pb), (n3, eI (ty 0) 10 pc_), (rk, eO 4 [.ref lw, .ref w1, .ref w2, .int z1, .int z2, .int z3, .ref ho, .ref m1, .int z0, .ref m2, .ref m3, .int z4, .ref m4, .int z5, .ref m5, .ref m6, .ref m7, .int z6]), (lw, eO 2 [.ref ho, .ref l1, .ref l2, .ref l3, .ref l4]), (l1, eI (ty 0) 1000 f), (l3, eI (ty 0) 8 v), (h0, eO 8 [.ref rd, .ref ho, .ref nw, .ref tr, .ref ts, .ref im, .ref rk]), (ho, eO 0 [.int 0, .int 1, .int 0, .int 0, .int 0, .int 0, .int 0, .int 0, .int 0, .int 0, .ref g1, .ref g2, .ref g3]), (nw, eO 5 [.ref n0, .int 0, .int (nI d), .ref n1, .ref n2, .ref n3])] := hD
  refine lv_istore (lv' := [(4, .int 0), (0, .ref h0), (1, .ref nw), (2, .long (-1))]) hx hb d_X8_whyNotDone_6 hl (by decide) rfl (fun ls hl => ?_)
  refine lv_iload hx hb d_X8_whyNotDone_8 (lv_at hl 0 rfl) ?_
  refine b_if_eqT C 16 d_X8_whyNotDone_10 (by decide) (by decide) ?_
  refine lv_lload_n hx hb d_X8_whyNotDone_16 rfl (lv_at hl 3 rfl) ?_
  refine lv_l2i (v := (-1)) hx hb d_X8_whyNotDone_17 (by decide) ?_
  refine lv_istore (lv' := [(5, .int (-1)), (4, .int 0), (0, .ref h0), (1, .ref nw), (2, .long (-1))]) hx hb d_X8_whyNotDone_18 hl (by decide) rfl (fun ls hl => ?_)
  refine lv_aload_n hx hb d_X8_whyNotDone_20 rfl (lv_at hl 3 rfl) ?_
  have ct_5 : Cut [(n0, eO 7 [.int (nI bb), .int (-1)]), (n1, eI (ty 0) 10 pa), (n2, eI (ty 0) 10 pb), (n3, eI (ty 0) 10 pc_), (rk, eO 4 [.ref lw, .ref w1, .ref w2, .int z1, .int z2, .int z3, .ref ho, .ref m1, .int z0, .ref m2, .ref m3, .int z4, .ref m4, .int z5, .ref m5, .ref m6, .ref m7, .int z6]), (lw, eO 2 [.ref ho, .ref l1, .ref l2, .ref l3, .ref l4]), (l1, eI (ty 0) 1000 f), (l3, eI (ty 0) 8 v), (h0, eO 8 [.ref rd, .ref ho, .ref nw, .ref tr, .ref ts, .ref im, .ref rk]), (ho, eO 0 [.int 0, .int 1, .int 0, .int 0, .int 0, .int 0, .int 0, .int 0, .int 0, .int 0, .ref g1, .ref g2, .ref g3]), (nw, eO 5 [.ref n0, .int 0, .int (nI d), .ref n1, .ref n2, .ref n3])] [(nw, eO 5 [.ref n0, .int 0, .int (nI d), .ref n1, .ref n2, .ref n3]), (n0, eO 7 [.int (nI bb), .int (-1)]), (n1, eI (ty 0) 10 pa), (n2, eI (ty 0) 10 pb), (n3, eI (ty 0) 10 pc_)] [(rk, eO 4 [.ref lw, .ref w1, .ref w2, .int z1, .int z2, .int z3, .ref ho, .ref m1, .int z0, .ref m2, .ref m3, .int z4, .ref m4, .int z5, .ref m5, .ref m6, .ref m7, .int z6]), (lw, eO 2 [.ref ho, .ref l1, .ref l2, .ref l3, .ref l4]), (l1, eI (ty 0) 1000 f), (l3, eI (ty 0) 8 v), (h0, eO 8 [.ref rd, .ref ho, .ref nw, .ref tr, .ref ts, .ref im, .ref rk]), (ho, eO 0 [.int 0, .int 1, .int 0, .int 0, .int 0, .int 0, .int 0, .int 0, .int 0, .int 0, .ref g1, .ref g2, .ref g3])] [10, 0, 1, 2, 3] [4, 5, 6, 7, 8, 9] := ⟨rfl, rfl, rfl, rfl, by decide⟩
  refine cont_V C hP hD hS ct_5 (run_V (As := []) (rest := []) C hP hD hS ct_5 (c_record l D ty nw n0 n1 n2 n3 (nI bb) (-1) d pa pb pc_ hd) kV_PinchedBill_125 10 rfl rfl rfl rfl hl.1 rfl (nle rfl) d_X8_whyNotDone_21 ⟨by decide, by decide, by decide, by decide⟩) (fun w_12 H locs hw_10 hP hD hS => ?_)
  obtain ⟨d9_6, pa9_7, pb9_8, pc9_9, hd9_13, rfl⟩ := hw_10
  have hP : va_P D vwCl [(rk, eO 4 [.ref lw, .ref w1, .ref w2, .int z1, .int z2, .int z3, .ref ho, .ref m1, .int z0, .ref m2, .ref m3, .int z4, .ref m4, .int z5, .ref m5, .ref m6, .ref m7, .int z6]), (lw, eO 2 [.ref ho, .ref l1, .ref l2, .ref l3, .ref l4]), (l1, eI (ty 0) 1000 f), (l3, eI (ty 0) 8 v), (h0, eO 8 [.ref rd, .ref ho, .ref nw, .ref tr, .ref ts, .ref im, .ref rk]), (ho, eO 0 [.int 0, .int 1, .int 0, .int 0, .int 0, .int 0, .int 0, .int 0, .int 0, .int 0, .ref g1, .ref g2, .ref g3]), (nw, eO 5 [.ref n0, .int 0, .int (nI d9_6), .ref n1, .ref n2, .ref n3]), (n0, eO 7 [.int (nI bb), .int (-1)]), (n1, eI (ty 0) 10 pa9_7), (n2, eI (ty 0) 10 pb9_8), (n3, eI (ty 0) 10 pc9_9)] H := hP
  have hD : va_D A [(rk, eO 4 [.ref lw, .ref w1, .ref w2, .int z1, .int z2, .int z3, .ref ho, .ref m1, .int z0, .ref m2, .ref m3, .int z4, .ref m4, .int z5, .ref m5, .ref m6, .ref m7, .int z6]), (lw, eO 2 [.ref ho, .ref l1, .ref l2, .ref l3, .ref l4]), (l1, eI (ty 0) 1000 f), (l3, eI (ty 0) 8 v), (h0, eO 8 [.ref rd, .ref ho, .ref nw, .ref tr, .ref ts, .ref im, .ref rk]), (ho, eO 0 [.int 0, .int 1, .int 0, .int 0, .int 0, .int 0, .int 0, .int 0, .int 0, .int 0, .ref g1, .ref g2, .ref g3]), (nw, eO 5 [.ref n0, .int 0, .int (nI d9_6), .ref n1, .ref n2, .ref n3]), (n0, eO 7 [.int (nI bb), .int (-1)]), (n1, eI (ty 0) 10 pa9_7), (n2, eI (ty 0) 10 pb9_8), (n3, eI (ty 0) 10 pc9_9)] := hD
  refine lv_iload hx hb d_X8_whyNotDone_24 (lv_at hl 0 rfl) ?_
  refine lv_iconst (v := (-1)) hx hb d_X8_whyNotDone_26 (by decide) ?_
  refine b_icmp_neF C 49 d_X8_whyNotDone_27 (by decide) (by decide) ?_
  refine lv_aload_n hx hb d_X8_whyNotDone_30 rfl (lv_at hl 2 rfl) ?_
  have ct_14 : Cut [(rk, eO 4 [.ref lw, .ref w1, .ref w2, .int z1, .int z2, .int z3, .ref ho, .ref m1, .int z0, .ref m2, .ref m3, .int z4, .ref m4, .int z5, .ref m5, .ref m6, .ref m7, .int z6]), (lw, eO 2 [.ref ho, .ref l1, .ref l2, .ref l3, .ref l4]), (l1, eI (ty 0) 1000 f), (l3, eI (ty 0) 8 v), (h0, eO 8 [.ref rd, .ref ho, .ref nw, .ref tr, .ref ts, .ref im, .ref rk]), (ho, eO 0 [.int 0, .int 1, .int 0, .int 0, .int 0, .int 0, .int 0, .int 0, .int 0, .int 0, .ref g1, .ref g2, .ref g3]), (nw, eO 5 [.ref n0, .int 0, .int (nI d9_6), .ref n1, .ref n2, .ref n3]), (n0, eO 7 [.int (nI bb), .int (-1)]), (n1, eI (ty 0) 10 pa9_7), (n2, eI (ty 0) 10 pb9_8), (n3, eI (ty 0) 10 pc9_9)] [(h0, eO 8 [.ref rd, .ref ho, .ref nw, .ref tr, .ref ts, .ref im, .ref rk]), (rk, eO 4 [.ref lw, .ref w1, .ref w2, .int z1, .int z2, .int z3, .ref ho, .ref m1, .int z0, .ref m2, .ref m3, .int z4, .ref m4, .int z5, .ref m5, .ref m6, .ref m7, .int z6])] [(lw, eO 2 [.ref ho, .ref l1, .ref l2, .ref l3, .ref l4]), (l1, eI (ty 0) 1000 f), (l3, eI (ty 0) 8 v), (ho, eO 0 [.int 0, .int 1, .int 0, .int 0, .int 0, .int 0, .int 0, .int 0, .int 0, .int 0, .ref g1, .ref g2, .ref g3]), (nw, eO 5 [.ref n0, .int 0, .int (nI d9_6), .ref n1, .ref n2, .ref n3]), (n0, eO 7 [.int (nI bb), .int (-1)]), (n1, eI (ty 0) 10 pa9_7), (n2, eI (ty 0) 10 pb9_8), (n3, eI (ty 0) 10 pc9_9)] [4, 0] [1, 2, 3, 5, 6, 7, 8, 9, 10] := ⟨rfl, rfl, rfl, rfl, by decide⟩
  refine cont_R C hP hD hS ct_14 (run_V (As := []) (rest := []) C hP hD hS ct_14 (c_lawBook2 l D ty h0 rd ho nw tr ts im rk lw w1 w2 m1 m2 m3 m4 m5 m6 m7 z0 z1 z2 z3 z4 z5 z6) kV_PinchedBill_95 4 rfl rfl rfl rfl hl.1 rfl (nle rfl) d_X8_whyNotDone_31 ⟨by decide, by decide, by decide, by decide⟩) (fun r_16 w_17 H locs hw_15 hP hD hS => ?_)
  obtain ⟨rfl, rfl⟩ := hw_15
  have hP : va_P D vwCl [(lw, eO 2 [.ref ho, .ref l1, .ref l2, .ref l3, .ref l4]), (l1, eI (ty 0) 1000 f), (l3, eI (ty 0) 8 v), (ho, eO 0 [.int 0, .int 1, .int 0, .int 0, .int 0, .int 0, .int 0, .int 0, .int 0, .int 0, .ref g1, .ref g2, .ref g3]), (nw, eO 5 [.ref n0, .int 0, .int (nI d9_6), .ref n1, .ref n2, .ref n3]), (n0, eO 7 [.int (nI bb), .int (-1)]), (n1, eI (ty 0) 10 pa9_7), (n2, eI (ty 0) 10 pb9_8), (n3, eI (ty 0) 10 pc9_9), (h0, eO 8 [.ref rd, .ref ho, .ref nw, .ref tr, .ref ts, .ref im, .ref rk]), (rk, eO 4 [.ref lw, .ref w1, .ref w2, .int z1, .int z2, .int z3, .ref ho, .ref m1, .int z0, .ref m2, .ref m3, .int z4, .ref m4, .int z5, .ref m5, .ref m6, .ref m7, .int z6])] H := hP
  have hD : va_D A [(lw, eO 2 [.ref ho, .ref l1, .ref l2, .ref l3, .ref l4]), (l1, eI (ty 0) 1000 f), (l3, eI (ty 0) 8 v), (ho, eO 0 [.int 0, .int 1, .int 0, .int 0, .int 0, .int 0, .int 0, .int 0, .int 0, .int 0, .ref g1, .ref g2, .ref g3]), (nw, eO 5 [.ref n0, .int 0, .int (nI d9_6), .ref n1, .ref n2, .ref n3]), (n0, eO 7 [.int (nI bb), .int (-1)]), (n1, eI (ty 0) 10 pa9_7), (n2, eI (ty 0) 10 pb9_8), (n3, eI (ty 0) 10 pc9_9), (h0, eO 8 [.ref rd, .ref ho, .ref nw, .ref tr, .ref ts, .ref im, .ref rk]), (rk, eO 4 [.ref lw, .ref w1, .ref w2, .int z1, .int z2, .int z3, .ref ho, .ref m1, .int z0, .ref m2, .ref m3, .int z4, .ref m4, .int z5, .ref m5, .ref m6, .ref m7, .int z6])] := hD
  refine lv_aload_n hx hb d_X8_whyNotDone_34 rfl (lv_at hl 3 rfl) ?_
  refine r_get (v := .ref n0) C hP 4 rfl rfl lay_X5 0 (by decide) k_295 rfl d_X8_whyNotDone_35 ?_
  refine lv_aload_n hx hb d_X8_whyNotDone_38 rfl (lv_at hl 3 rfl) ?_
  refine r_get (v := .int 0) C hP 4 rfl rfl lay_X5 1 (by decide) k_297 rfl d_X8_whyNotDone_39 ?_
  have ct_18 : Cut [(lw, eO 2 [.ref ho, .ref l1, .ref l2, .ref l3, .ref l4]), (l1, eI (ty 0) 1000 f), (l3, eI (ty 0) 8 v), (ho, eO 0 [.int 0, .int 1, .int 0, .int 0, .int 0, .int 0, .int 0, .int 0, .int 0, .int 0, .ref g1, .ref g2, .ref g3]), (nw, eO 5 [.ref n0, .int 0, .int (nI d9_6), .ref n1, .ref n2, .ref n3]), (n0, eO 7 [.int (nI bb), .int (-1)]), (n1, eI (ty 0) 10 pa9_7), (n2, eI (ty 0) 10 pb9_8), (n3, eI (ty 0) 10 pc9_9), (h0, eO 8 [.ref rd, .ref ho, .ref nw, .ref tr, .ref ts, .ref im, .ref rk]), (rk, eO 4 [.ref lw, .ref w1, .ref w2, .int z1, .int z2, .int z3, .ref ho, .ref m1, .int z0, .ref m2, .ref m3, .int z4, .ref m4, .int z5, .ref m5, .ref m6, .ref m7, .int z6])] [(lw, eO 2 [.ref ho, .ref l1, .ref l2, .ref l3, .ref l4]), (ho, eO 0 [.int 0, .int 1, .int 0, .int 0, .int 0, .int 0, .int 0, .int 0, .int 0, .int 0, .ref g1, .ref g2, .ref g3]), (l1, eI (ty 0) 1000 f), (l3, eI (ty 0) 8 v), (n0, eO 7 [.int (nI bb), .int (-1)])] [(nw, eO 5 [.ref n0, .int 0, .int (nI d9_6), .ref n1, .ref n2, .ref n3]), (n1, eI (ty 0) 10 pa9_7), (n2, eI (ty 0) 10 pb9_8), (n3, eI (ty 0) 10 pc9_9), (h0, eO 8 [.ref rd, .ref ho, .ref nw, .ref tr, .ref ts, .ref im, .ref rk]), (rk, eO 4 [.ref lw, .ref w1, .ref w2, .int z1, .int z2, .int z3, .ref ho, .ref m1, .int z0, .ref m2, .ref m3, .int z4, .ref m4, .int z5, .ref m5, .ref m6, .ref m7, .int z6])] [0, 3, 1, 2, 5] [4, 6, 7, 8, 9, 10] := ⟨rfl, rfl, rfl, rfl, by decide⟩
  refine cont_I C hP hD hS ct_18 (run_V (As := [.ref n0, .int 0]) (rest := []) C hP hD hS ct_18 (c_step l D ty lw ho l1 l2 l3 l4 g1 g2 g3 n0 f v bb (-1) hbb hf) kV_PinchedBill_363 0 rfl rfl rfl rfl hl.1 rfl (nle rfl) d_X8_whyNotDone_42 ⟨by decide, by decide, by decide, by decide⟩) (fun r_22 w_23 H locs hw_21 hP hD hS => ?_)
  obtain ⟨f9_19, v9_20, hf9_24, rfl, rfl⟩ := hw_21
  have hP : va_P D vwCl [(nw, eO 5 [.ref n0, .int 0, .int (nI d9_6), .ref n1, .ref n2, .ref n3]), (n1, eI (ty 0) 10 pa9_7), (n2, eI (ty 0) 10 pb9_8), (n3, eI (ty 0) 10 pc9_9), (h0, eO 8 [.ref rd, .ref ho, .ref nw, .ref tr, .ref ts, .ref im, .ref rk]), (rk, eO 4 [.ref lw, .ref w1, .ref w2, .int z1, .int z2, .int z3, .ref ho, .ref m1, .int z0, .ref m2, .ref m3, .int z4, .ref m4, .int z5, .ref m5, .ref m6, .ref m7, .int z6]), (lw, eO 2 [.ref ho, .ref l1, .ref l2, .ref l3, .ref l4]), (ho, eO 0 [.int 0, .int 1, .int 0, .int 0, .int 0, .int 0, .int 0, .int 0, .int 0, .int 0, .ref g1, .ref g2, .ref g3]), (l1, eI (ty 0) 1000 f9_19), (l3, eI (ty 0) 8 v9_20), (n0, eO 7 [.int (nI bb), .int (-1)])] H := hP
  have hD : va_D A [(nw, eO 5 [.ref n0, .int 0, .int (nI d9_6), .ref n1, .ref n2, .ref n3]), (n1, eI (ty 0) 10 pa9_7), (n2, eI (ty 0) 10 pb9_8), (n3, eI (ty 0) 10 pc9_9), (h0, eO 8 [.ref rd, .ref ho, .ref nw, .ref tr, .ref ts, .ref im, .ref rk]), (rk, eO 4 [.ref lw, .ref w1, .ref w2, .int z1, .int z2, .int z3, .ref ho, .ref m1, .int z0, .ref m2, .ref m3, .int z4, .ref m4, .int z5, .ref m5, .ref m6, .ref m7, .int z6]), (lw, eO 2 [.ref ho, .ref l1, .ref l2, .ref l3, .ref l4]), (ho, eO 0 [.int 0, .int 1, .int 0, .int 0, .int 0, .int 0, .int 0, .int 0, .int 0, .int 0, .ref g1, .ref g2, .ref g3]), (l1, eI (ty 0) 1000 f9_19), (l3, eI (ty 0) 8 v9_20), (n0, eO 7 [.int (nI bb), .int (-1)])] := hD
  refine lv_pop hx hb d_X8_whyNotDone_45 rfl ?_
  refine lv_goto (tgt := 116) hx hb d_X8_whyNotDone_46 (by decide) ?_
  refine lv_iconst (v := 0) hx hb d_X8_whyNotDone_116 (by decide) ?_
  exact ret_I (w := [(h0, eO 8 [.ref rd, .ref ho, .ref nw, .ref tr, .ref ts, .ref im, .ref rk]), (ho, eO 0 [.int 0, .int 1, .int 0, .int 0, .int 0, .int 0, .int 0, .int 0, .int 0, .int 0, .ref g1, .ref g2, .ref g3]), (nw, eO 5 [.ref n0, .int 0, .int (nI d9_6), .ref n1, .ref n2, .ref n3]), (n0, eO 7 [.int (nI bb), .int (-1)]), (n1, eI (ty 0) 10 pa9_7), (n2, eI (ty 0) 10 pb9_8), (n3, eI (ty 0) 10 pc9_9), (rk, eO 4 [.ref lw, .ref w1, .ref w2, .int z1, .int z2, .int z3, .ref ho, .ref m1, .int z0, .ref m2, .ref m3, .int z4, .ref m4, .int z5, .ref m5, .ref m6, .ref m7, .int z6]), (lw, eO 2 [.ref ho, .ref l1, .ref l2, .ref l3, .ref l4]), (l1, eI (ty 0) 1000 f9_19), (l3, eI (ty 0) 8 v9_20)]) C hP hD hS [4, 7, 0, 10, 1, 2, 3, 5, 6, 8, 9] rfl rfl ⟨d9_6, bb, pa9_7, pb9_8, pc9_9, f9_19, v9_20, (by omega), (by omega), hf9_24, rfl, rfl⟩ (by decide) (by decide) d_X8_whyNotDone_117
set_option maxHeartbeats 4000000 in
set_option maxRecDepth 100000 in
theorem c_wndMA (l : Launch) (D : va_G) (ty : Nat → ClassId) (h0 : Nat) (rd : Nat) (ho : Nat) (nw : Nat) (tr : Nat) (ts : Nat) (im : Nat) (g1 : Nat) (g2 : Nat) (g3 : Nat) (n0 : Nat) (n1 : Nat) (n2 : Nat) (n3 : Nat) (d : Nat) (bb : Nat) (pa : Nat → Int32) (pb : Nat → Int32) (pc_ : Nat → Int32) (hd : d < 11) (hbb : bb < 1000) : CC l D ty ⟨"PinchedBill", "whyNotDone", "(LPinchedBill$Standing;J)I"⟩ prog_1_method_63_code 6 (some .int) 5 94 15 22363 [.ref h0, .ref nw, .long (-1)] [(h0, eO 8 [.ref rd, .ref ho, .ref nw, .ref tr, .ref ts, .ref im, .null]), (ho, eO 0 [.int 0, .int 1, .int 0, .int 0, .int 0, .int 0, .int 0, .int 0, .int 0, .int 0, .ref g1, .ref g2, .ref g3]), (nw, eO 5 [.ref n0, .int 0, .int (nI d), .ref n1, .ref n2, .ref n3]), (n0, eO 7 [.int (nI bb), .int (-1)]), (n1, eI (ty 0) 10 pa), (n2, eI (ty 0) 10 pb), (n3, eI (ty 0) 10 pc_)] (QI D ty (fun (r : Int32) (w : va_W) => ∃ (rk : Nat) (lw : Nat) (l1 : Nat) (l2 : Nat) (l3 : Nat) (l4 : Nat) (w1 : Nat) (w2 : Nat) (m1 : Nat) (m2 : Nat) (m3 : Nat) (m4 : Nat) (m5 : Nat) (m6 : Nat) (m7 : Nat) (d9 : Nat) (b9 : Nat) (pa9 : Nat → Int32) (pb9 : Nat → Int32) (pc9 : Nat → Int32) (f9 : Nat → Int32) (v9 : Nat → Int32), (d9 < 11) ∧ (b9 < 1000) ∧ (B01 f9) ∧ 0 = r ∧ w = [(h0, eO 8 [.ref rd, .ref ho, .ref nw, .ref tr, .ref ts, .ref im, .ref rk]), (ho, eO 0 [.int 0, .int 1, .int 0, .int 0, .int 0, .int 0, .int 0, .int 0, .int 0, .int 0, .ref g1, .ref g2, .ref g3]), (nw, eO 5 [.ref n0, .int 0, .int (nI d9), .ref n1, .ref n2, .ref n3]), (n0, eO 7 [.int (nI b9), .int (-1)]), (n1, eI (ty 0) 10 pa9), (n2, eI (ty 0) 10 pb9), (n3, eI (ty 0) 10 pc9), (rk, eO 4 [.ref lw, .ref w1, .ref w2, .int 0, .int 0, .int 0, .ref ho, .ref m1, .int 1, .ref m2, .ref m3, .int (-1), .ref m4, .int (-1), .ref m5, .ref m6, .ref m7, .int 0]), (lw, eO 2 [.ref ho, .ref l1, .ref l2, .ref l3, .ref l4]), (l1, eI (ty 0) 1000 f9), (l3, eI (ty 0) 8 v9)])) := by
  refine CC_of (by decide) ?_
  intro p e s m below meth c A C hP hD hS
  obtain ⟨⟨hx, hb, hml, hown, hts⟩, hr, hlocks, hnm, hK, hE, hA, hZ⟩ := id C
  refine startW [.ref h0, .ref nw, .long (-1)] 6 (nle rfl) (lv := [(0, .ref h0), (1, .ref nw), (2, .long (-1))]) rfl (fun ls hl => ?_)
  refine lv_aload_n hx hb d_X8_whyNotDone_0 rfl (lv_at hl 0 rfl) ?_
  refine lv_aload_n hx hb d_X8_whyNotDone_1 rfl (lv_at hl 1 rfl) ?_
  refine lv_lload_n hx hb d_X8_whyNotDone_2 rfl (lv_at hl 2 rfl) ?_
  have ct_1 : Cut [(h0, eO 8 [.ref rd, .ref ho, .ref nw, .ref tr, .ref ts, .ref im, .null]), (ho, eO 0 [.int 0, .int 1, .int 0, .int 0, .int 0, .int 0, .int 0, .int 0, .int 0, .int 0, .ref g1, .ref g2, .ref g3]), (nw, eO 5 [.ref n0, .int 0, .int (nI d), .ref n1, .ref n2, .ref n3]), (n0, eO 7 [.int (nI bb), .int (-1)]), (n1, eI (ty 0) 10 pa), (n2, eI (ty 0) 10 pb), (n3, eI (ty 0) 10 pc_)] [(h0, eO 8 [.ref rd, .ref ho, .ref nw, .ref tr, .ref ts, .ref im, .null]), (ho, eO 0 [.int 0, .int 1, .int 0, .int 0, .int 0, .int 0, .int 0, .int 0, .int 0, .int 0, .ref g1, .ref g2, .ref g3]), (nw, eO 5 [.ref n0, .int 0, .int (nI d), .ref n1, .ref n2, .ref n3])] [(n0, eO 7 [.int (nI bb), .int (-1)]), (n1, eI (ty 0) 10 pa), (n2, eI (ty 0) 10 pb), (n3, eI (ty 0) 10 pc_)] [0, 1, 2] [3, 4, 5, 6] := ⟨rfl, rfl, rfl, rfl, by decide⟩
  refine cont_I C hP hD hS ct_1 (run_V (As := [.ref nw, .long (-1)]) (rest := []) C hP hD hS ct_1 (c_whyM l D ty h0 rd ho nw tr ts im g1 g2 g3 n0 n1 n2 n3 (.null) d) kV_PinchedBill_163 0 rfl rfl rfl rfl hl.1 rfl (nle rfl) d_X8_whyNotDone_3 ⟨by decide, by decide, by decide, by decide⟩) (fun r_3 w_4 H locs hw_2 hP hD hS => ?_)
  obtain ⟨rfl, rfl⟩ := hw_2
  have hP : va_P D vwCl [(n0, eO 7 [.int (nI bb), .int (-1)]), (n1, eI (ty 0) 10 pa), (n2, eI (ty 0) 10 pb), (n3, eI (ty 0) 10 pc_), (h0, eO 8 [.ref rd, .ref ho, .ref nw, .ref tr, .ref ts, .ref im, .null]), (ho, eO 0 [.int 0, .int 1, .int 0, .int 0, .int 0, .int 0, .int 0, .int 0, .int 0, .int 0, .ref g1, .ref g2, .ref g3]), (nw, eO 5 [.ref n0, .int 0, .int (nI d), .ref n1, .ref n2, .ref n3])] H := hP
  have hD : va_D A [(n0, eO 7 [.int (nI bb), .int (-1)]), (n1, eI (ty 0) 10 pa), (n2, eI (ty 0) 10 pb), (n3, eI (ty 0) 10 pc_), (h0, eO 8 [.ref rd, .ref ho, .ref nw, .ref tr, .ref ts, .ref im, .null]), (ho, eO 0 [.int 0, .int 1, .int 0, .int 0, .int 0, .int 0, .int 0, .int 0, .int 0, .int 0, .ref g1, .ref g2, .ref g3]), (nw, eO 5 [.ref n0, .int 0, .int (nI d), .ref n1, .ref n2, .ref n3])] := hD
  refine lv_istore (lv' := [(4, .int 0), (0, .ref h0), (1, .ref nw), (2, .long (-1))]) hx hb d_X8_whyNotDone_6 hl (by decide) rfl (fun ls hl => ?_)
  refine lv_iload hx hb d_X8_whyNotDone_8 (lv_at hl 0 rfl) ?_
  refine b_if_eqT C 16 d_X8_whyNotDone_10 (by decide) (by decide) ?_
  refine lv_lload_n hx hb d_X8_whyNotDone_16 rfl (lv_at hl 3 rfl) ?_
  refine lv_l2i (v := (-1)) hx hb d_X8_whyNotDone_17 (by decide) ?_
  refine lv_istore (lv' := [(5, .int (-1)), (4, .int 0), (0, .ref h0), (1, .ref nw), (2, .long (-1))]) hx hb d_X8_whyNotDone_18 hl (by decide) rfl (fun ls hl => ?_)
  refine lv_aload_n hx hb d_X8_whyNotDone_20 rfl (lv_at hl 3 rfl) ?_
  have ct_5 : Cut [(n0, eO 7 [.int (nI bb), .int (-1)]), (n1, eI (ty 0) 10 pa), (n2, eI (ty 0) 10 pb), (n3, eI (ty 0) 10 pc_), (h0, eO 8 [.ref rd, .ref ho, .ref nw, .ref tr, .ref ts, .ref im, .null]), (ho, eO 0 [.int 0, .int 1, .int 0, .int 0, .int 0, .int 0, .int 0, .int 0, .int 0, .int 0, .ref g1, .ref g2, .ref g3]), (nw, eO 5 [.ref n0, .int 0, .int (nI d), .ref n1, .ref n2, .ref n3])] [(nw, eO 5 [.ref n0, .int 0, .int (nI d), .ref n1, .ref n2, .ref n3]), (n0, eO 7 [.int (nI bb), .int (-1)]), (n1, eI (ty 0) 10 pa), (n2, eI (ty 0) 10 pb), (n3, eI (ty 0) 10 pc_)] [(h0, eO 8 [.ref rd, .ref ho, .ref nw, .ref tr, .ref ts, .ref im, .null]), (ho, eO 0 [.int 0, .int 1, .int 0, .int 0, .int 0, .int 0, .int 0, .int 0, .int 0, .int 0, .ref g1, .ref g2, .ref g3])] [6, 0, 1, 2, 3] [4, 5] := ⟨rfl, rfl, rfl, rfl, by decide⟩
  refine cont_V C hP hD hS ct_5 (run_V (As := []) (rest := []) C hP hD hS ct_5 (c_record l D ty nw n0 n1 n2 n3 (nI bb) (-1) d pa pb pc_ hd) kV_PinchedBill_125 6 rfl rfl rfl rfl hl.1 rfl (nle rfl) d_X8_whyNotDone_21 ⟨by decide, by decide, by decide, by decide⟩) (fun w_12 H locs hw_10 hP hD hS => ?_)
  obtain ⟨d9_6, pa9_7, pb9_8, pc9_9, hd9_13, rfl⟩ := hw_10
  have hP : va_P D vwCl [(h0, eO 8 [.ref rd, .ref ho, .ref nw, .ref tr, .ref ts, .ref im, .null]), (ho, eO 0 [.int 0, .int 1, .int 0, .int 0, .int 0, .int 0, .int 0, .int 0, .int 0, .int 0, .ref g1, .ref g2, .ref g3]), (nw, eO 5 [.ref n0, .int 0, .int (nI d9_6), .ref n1, .ref n2, .ref n3]), (n0, eO 7 [.int (nI bb), .int (-1)]), (n1, eI (ty 0) 10 pa9_7), (n2, eI (ty 0) 10 pb9_8), (n3, eI (ty 0) 10 pc9_9)] H := hP
  have hD : va_D A [(h0, eO 8 [.ref rd, .ref ho, .ref nw, .ref tr, .ref ts, .ref im, .null]), (ho, eO 0 [.int 0, .int 1, .int 0, .int 0, .int 0, .int 0, .int 0, .int 0, .int 0, .int 0, .ref g1, .ref g2, .ref g3]), (nw, eO 5 [.ref n0, .int 0, .int (nI d9_6), .ref n1, .ref n2, .ref n3]), (n0, eO 7 [.int (nI bb), .int (-1)]), (n1, eI (ty 0) 10 pa9_7), (n2, eI (ty 0) 10 pb9_8), (n3, eI (ty 0) 10 pc9_9)] := hD
  refine lv_iload hx hb d_X8_whyNotDone_24 (lv_at hl 0 rfl) ?_
  refine lv_iconst (v := (-1)) hx hb d_X8_whyNotDone_26 (by decide) ?_
  refine b_icmp_neF C 49 d_X8_whyNotDone_27 (by decide) (by decide) ?_
  refine lv_aload_n hx hb d_X8_whyNotDone_30 rfl (lv_at hl 2 rfl) ?_
  have ct_14 : Cut [(h0, eO 8 [.ref rd, .ref ho, .ref nw, .ref tr, .ref ts, .ref im, .null]), (ho, eO 0 [.int 0, .int 1, .int 0, .int 0, .int 0, .int 0, .int 0, .int 0, .int 0, .int 0, .ref g1, .ref g2, .ref g3]), (nw, eO 5 [.ref n0, .int 0, .int (nI d9_6), .ref n1, .ref n2, .ref n3]), (n0, eO 7 [.int (nI bb), .int (-1)]), (n1, eI (ty 0) 10 pa9_7), (n2, eI (ty 0) 10 pb9_8), (n3, eI (ty 0) 10 pc9_9)] [(h0, eO 8 [.ref rd, .ref ho, .ref nw, .ref tr, .ref ts, .ref im, .null]), (ho, eO 0 [.int 0, .int 1, .int 0, .int 0, .int 0, .int 0, .int 0, .int 0, .int 0, .int 0, .ref g1, .ref g2, .ref g3])] [(nw, eO 5 [.ref n0, .int 0, .int (nI d9_6), .ref n1, .ref n2, .ref n3]), (n0, eO 7 [.int (nI bb), .int (-1)]), (n1, eI (ty 0) 10 pa9_7), (n2, eI (ty 0) 10 pb9_8), (n3, eI (ty 0) 10 pc9_9)] [0, 1] [2, 3, 4, 5, 6] := ⟨rfl, rfl, rfl, rfl, by decide⟩
  refine cont_R C hP hD hS ct_14 (run_V (As := []) (rest := []) C hP hD hS ct_14 (c_lawBook l D ty h0 rd ho nw tr ts im g1 g2 g3) kV_PinchedBill_95 0 rfl rfl rfl rfl hl.1 rfl (nle rfl) d_X8_whyNotDone_31 ⟨by decide, by decide, by decide, by decide⟩) (fun r_31 w_32 H locs hw_30 hP hD hS => ?_)
  obtain ⟨rk_15, lw_16, l1_17, l2_18, l3_19, l4_20, w1_21, w2_22, m1_23, m2_24, m3_25, m4_26, m5_27, m6_28, m7_29, rfl, rfl⟩ := hw_30
  have hP : va_P D vwCl [(nw, eO 5 [.ref n0, .int 0, .int (nI d9_6), .ref n1, .ref n2, .ref n3]), (n0, eO 7 [.int (nI bb), .int (-1)]), (n1, eI (ty 0) 10 pa9_7), (n2, eI (ty 0) 10 pb9_8), (n3, eI (ty 0) 10 pc9_9), (h0, eO 8 [.ref rd, .ref ho, .ref nw, .ref tr, .ref ts, .ref im, .ref rk_15]), (ho, eO 0 [.int 0, .int 1, .int 0, .int 0, .int 0, .int 0, .int 0, .int 0, .int 0, .int 0, .ref g1, .ref g2, .ref g3]), (rk_15, eO 4 [.ref lw_16, .ref w1_21, .ref w2_22, .int 0, .int 0, .int 0, .ref ho, .ref m1_23, .int 1, .ref m2_24, .ref m3_25, .int (-1), .ref m4_26, .int (-1), .ref m5_27, .ref m6_28, .ref m7_29, .int 0]), (lw_16, eO 2 [.ref ho, .ref l1_17, .ref l2_18, .ref l3_19, .ref l4_20]), (l1_17, eI (ty 0) 1000 (fun _ => 0)), (l2_18, eI (ty 0) 8000 (fun _ => 0)), (l3_19, eI (ty 0) 8 (fun _ => 0)), (l4_20, eI (ty 0) 64 (fun _ => 0)), (w1_21, eO 7 [.int 0, .int (-1)]), (w2_22, eO 7 [.int 0, .int (-1)]), (m1_23, eI (ty 0) 9000 (fun _ => 0)), (m2_24, eI (ty 0) 1000 (fun _ => 0)), (m3_25, eI (ty 0) 1000 (fun _ => 0)), (m4_26, eI (ty 0) 256 (fun _ => 0)), (m5_27, eI (ty 0) 8 (fun _ => 0)), (m6_28, eI (ty 0) 1000 (fun _ => 0)), (m7_29, eI (ty 0) 1000 (fun _ => 0))] H := hP
  have hD : va_D A [(nw, eO 5 [.ref n0, .int 0, .int (nI d9_6), .ref n1, .ref n2, .ref n3]), (n0, eO 7 [.int (nI bb), .int (-1)]), (n1, eI (ty 0) 10 pa9_7), (n2, eI (ty 0) 10 pb9_8), (n3, eI (ty 0) 10 pc9_9), (h0, eO 8 [.ref rd, .ref ho, .ref nw, .ref tr, .ref ts, .ref im, .ref rk_15]), (ho, eO 0 [.int 0, .int 1, .int 0, .int 0, .int 0, .int 0, .int 0, .int 0, .int 0, .int 0, .ref g1, .ref g2, .ref g3]), (rk_15, eO 4 [.ref lw_16, .ref w1_21, .ref w2_22, .int 0, .int 0, .int 0, .ref ho, .ref m1_23, .int 1, .ref m2_24, .ref m3_25, .int (-1), .ref m4_26, .int (-1), .ref m5_27, .ref m6_28, .ref m7_29, .int 0]), (lw_16, eO 2 [.ref ho, .ref l1_17, .ref l2_18, .ref l3_19, .ref l4_20]), (l1_17, eI (ty 0) 1000 (fun _ => 0)), (l2_18, eI (ty 0) 8000 (fun _ => 0)), (l3_19, eI (ty 0) 8 (fun _ => 0)), (l4_20, eI (ty 0) 64 (fun _ => 0)), (w1_21, eO 7 [.int 0, .int (-1)]), (w2_22, eO 7 [.int 0, .int (-1)]), (m1_23, eI (ty 0) 9000 (fun _ => 0)), (m2_24, eI (ty 0) 1000 (fun _ => 0)), (m3_25, eI (ty 0) 1000 (fun _ => 0)), (m4_26, eI (ty 0) 256 (fun _ => 0)), (m5_27, eI (ty 0) 8 (fun _ => 0)), (m6_28, eI (ty 0) 1000 (fun _ => 0)), (m7_29, eI (ty 0) 1000 (fun _ => 0))] := hD
  refine lv_aload_n hx hb d_X8_whyNotDone_34 rfl (lv_at hl 3 rfl) ?_
  refine r_get (v := .ref n0) C hP 0 rfl rfl lay_X5 0 (by decide) k_295 rfl d_X8_whyNotDone_35 ?_
  refine lv_aload_n hx hb d_X8_whyNotDone_38 rfl (lv_at hl 3 rfl) ?_
  refine r_get (v := .int 0) C hP 0 rfl rfl lay_X5 1 (by decide) k_297 rfl d_X8_whyNotDone_39 ?_
  have ct_33 : Cut [(nw, eO 5 [.ref n0, .int 0, .int (nI d9_6), .ref n1, .ref n2, .ref n3]), (n0, eO 7 [.int (nI bb), .int (-1)]), (n1, eI (ty 0) 10 pa9_7), (n2, eI (ty 0) 10 pb9_8), (n3, eI (ty 0) 10 pc9_9), (h0, eO 8 [.ref rd, .ref ho, .ref nw, .ref tr, .ref ts, .ref im, .ref rk_15]), (ho, eO 0 [.int 0, .int 1, .int 0, .int 0, .int 0, .int 0, .int 0, .int 0, .int 0, .int 0, .ref g1, .ref g2, .ref g3]), (rk_15, eO 4 [.ref lw_16, .ref w1_21, .ref w2_22, .int 0, .int 0, .int 0, .ref ho, .ref m1_23, .int 1, .ref m2_24, .ref m3_25, .int (-1), .ref m4_26, .int (-1), .ref m5_27, .ref m6_28, .ref m7_29, .int 0]), (lw_16, eO 2 [.ref ho, .ref l1_17, .ref l2_18, .ref l3_19, .ref l4_20]), (l1_17, eI (ty 0) 1000 (fun _ => 0)), (l2_18, eI (ty 0) 8000 (fun _ => 0)), (l3_19, eI (ty 0) 8 (fun _ => 0)), (l4_20, eI (ty 0) 64 (fun _ => 0)), (w1_21, eO 7 [.int 0, .int (-1)]), (w2_22, eO 7 [.int 0, .int (-1)]), (m1_23, eI (ty 0) 9000 (fun _ => 0)), (m2_24, eI (ty 0) 1000 (fun _ => 0)), (m3_25, eI (ty 0) 1000 (fun _ => 0)), (m4_26, eI (ty 0) 256 (fun _ => 0)), (m5_27, eI (ty 0) 8 (fun _ => 0)), (m6_28, eI (ty 0) 1000 (fun _ => 0)), (m7_29, eI (ty 0) 1000 (fun _ => 0))] [(lw_16, eO 2 [.ref ho, .ref l1_17, .ref l2_18, .ref l3_19, .ref l4_20]), (ho, eO 0 [.int 0, .int 1, .int 0, .int 0, .int 0, .int 0, .int 0, .int 0, .int 0, .int 0, .ref g1, .ref g2, .ref g3]), (l1_17, eI (ty 0) 1000 (fun _ => 0)), (l3_19, eI (ty 0) 8 (fun _ => 0)), (n0, eO 7 [.int (nI bb), .int (-1)])] [(nw, eO 5 [.ref n0, .int 0, .int (nI d9_6), .ref n1, .ref n2, .ref n3]), (n1, eI (ty 0) 10 pa9_7), (n2, eI (ty 0) 10 pb9_8), (n3, eI (ty 0) 10 pc9_9), (h0, eO 8 [.ref rd, .ref ho, .ref nw, .ref tr, .ref ts, .ref im, .ref rk_15]), (rk_15, eO 4 [.ref lw_16, .ref w1_21, .ref w2_22, .int 0, .int 0, .int 0, .ref ho, .ref m1_23, .int 1, .ref m2_24, .ref m3_25, .int (-1), .ref m4_26, .int (-1), .ref m5_27, .ref m6_28, .ref m7_29, .int 0]), (l2_18, eI (ty 0) 8000 (fun _ => 0)), (l4_20, eI (ty 0) 64 (fun _ => 0)), (w1_21, eO 7 [.int 0, .int (-1)]), (w2_22, eO 7 [.int 0, .int (-1)]), (m1_23, eI (ty 0) 9000 (fun _ => 0)), (m2_24, eI (ty 0) 1000 (fun _ => 0)), (m3_25, eI (ty 0) 1000 (fun _ => 0)), (m4_26, eI (ty 0) 256 (fun _ => 0)), (m5_27, eI (ty 0) 8 (fun _ => 0)), (m6_28, eI (ty 0) 1000 (fun _ => 0)), (m7_29, eI (ty 0) 1000 (fun _ => 0))] [8, 6, 9, 11, 1] [0, 2, 3, 4, 5, 7, 10, 12, 13, 14, 15, 16, 17, 18, 19, 20, 21] := ⟨rfl, rfl, rfl, rfl, by decide⟩
  refine cont_I C hP hD hS ct_33 (run_V (As := [.ref n0, .int 0]) (rest := []) C hP hD hS ct_33 (c_step l D ty lw_16 ho l1_17 l2_18 l3_19 l4_20 g1 g2 g3 n0 (fun _ => 0) (fun _ => 0) bb (-1) hbb B01_0) kV_PinchedBill_363 8 rfl rfl rfl rfl hl.1 rfl (nle rfl) d_X8_whyNotDone_42 ⟨by decide, by decide, by decide, by decide⟩) (fun r_37 w_38 H locs hw_36 hP hD hS => ?_)
  obtain ⟨f9_34, v9_35, hf9_39, rfl, rfl⟩ := hw_36
  have hP : va_P D vwCl [(nw, eO 5 [.ref n0, .int 0, .int (nI d9_6), .ref n1, .ref n2, .ref n3]), (n1, eI (ty 0) 10 pa9_7), (n2, eI (ty 0) 10 pb9_8), (n3, eI (ty 0) 10 pc9_9), (h0, eO 8 [.ref rd, .ref ho, .ref nw, .ref tr, .ref ts, .ref im, .ref rk_15]), (rk_15, eO 4 [.ref lw_16, .ref w1_21, .ref w2_22, .int 0, .int 0, .int 0, .ref ho, .ref m1_23, .int 1, .ref m2_24, .ref m3_25, .int (-1), .ref m4_26, .int (-1), .ref m5_27, .ref m6_28, .ref m7_29, .int 0]), (l2_18, eI (ty 0) 8000 (fun _ => 0)), (l4_20, eI (ty 0) 64 (fun _ => 0)), (w1_21, eO 7 [.int 0, .int (-1)]), (w2_22, eO 7 [.int 0, .int (-1)]), (m1_23, eI (ty 0) 9000 (fun _ => 0)), (m2_24, eI (ty 0) 1000 (fun _ => 0)), (m3_25, eI (ty 0) 1000 (fun _ => 0)), (m4_26, eI (ty 0) 256 (fun _ => 0)), (m5_27, eI (ty 0) 8 (fun _ => 0)), (m6_28, eI (ty 0) 1000 (fun _ => 0)), (m7_29, eI (ty 0) 1000 (fun _ => 0)), (lw_16, eO 2 [.ref ho, .ref l1_17, .ref l2_18, .ref l3_19, .ref l4_20]), (ho, eO 0 [.int 0, .int 1, .int 0, .int 0, .int 0, .int 0, .int 0, .int 0, .int 0, .int 0, .ref g1, .ref g2, .ref g3]), (l1_17, eI (ty 0) 1000 f9_34), (l3_19, eI (ty 0) 8 v9_35), (n0, eO 7 [.int (nI bb), .int (-1)])] H := hP
  have hD : va_D A [(nw, eO 5 [.ref n0, .int 0, .int (nI d9_6), .ref n1, .ref n2, .ref n3]), (n1, eI (ty 0) 10 pa9_7), (n2, eI (ty 0) 10 pb9_8), (n3, eI (ty 0) 10 pc9_9), (h0, eO 8 [.ref rd, .ref ho, .ref nw, .ref tr, .ref ts, .ref im, .ref rk_15]), (rk_15, eO 4 [.ref lw_16, .ref w1_21, .ref w2_22, .int 0, .int 0, .int 0, .ref ho, .ref m1_23, .int 1, .ref m2_24, .ref m3_25, .int (-1), .ref m4_26, .int (-1), .ref m5_27, .ref m6_28, .ref m7_29, .int 0]), (l2_18, eI (ty 0) 8000 (fun _ => 0)), (l4_20, eI (ty 0) 64 (fun _ => 0)), (w1_21, eO 7 [.int 0, .int (-1)]), (w2_22, eO 7 [.int 0, .int (-1)]), (m1_23, eI (ty 0) 9000 (fun _ => 0)), (m2_24, eI (ty 0) 1000 (fun _ => 0)), (m3_25, eI (ty 0) 1000 (fun _ => 0)), (m4_26, eI (ty 0) 256 (fun _ => 0)), (m5_27, eI (ty 0) 8 (fun _ => 0)), (m6_28, eI (ty 0) 1000 (fun _ => 0)), (m7_29, eI (ty 0) 1000 (fun _ => 0)), (lw_16, eO 2 [.ref ho, .ref l1_17, .ref l2_18, .ref l3_19, .ref l4_20]), (ho, eO 0 [.int 0, .int 1, .int 0, .int 0, .int 0, .int 0, .int 0, .int 0, .int 0, .int 0, .ref g1, .ref g2, .ref g3]), (l1_17, eI (ty 0) 1000 f9_34), (l3_19, eI (ty 0) 8 v9_35), (n0, eO 7 [.int (nI bb), .int (-1)])] := hD
  refine lv_pop hx hb d_X8_whyNotDone_45 rfl ?_
  refine lv_goto (tgt := 116) hx hb d_X8_whyNotDone_46 (by decide) ?_
  refine lv_iconst (v := 0) hx hb d_X8_whyNotDone_116 (by decide) ?_
  exact ret_I (w := [(h0, eO 8 [.ref rd, .ref ho, .ref nw, .ref tr, .ref ts, .ref im, .ref rk_15]), (ho, eO 0 [.int 0, .int 1, .int 0, .int 0, .int 0, .int 0, .int 0, .int 0, .int 0, .int 0, .ref g1, .ref g2, .ref g3]), (nw, eO 5 [.ref n0, .int 0, .int (nI d9_6), .ref n1, .ref n2, .ref n3]), (n0, eO 7 [.int (nI bb), .int (-1)]), (n1, eI (ty 0) 10 pa9_7), (n2, eI (ty 0) 10 pb9_8), (n3, eI (ty 0) 10 pc9_9), (rk_15, eO 4 [.ref lw_16, .ref w1_21, .ref w2_22, .int 0, .int 0, .int 0, .ref ho, .ref m1_23, .int 1, .ref m2_24, .ref m3_25, .int (-1), .ref m4_26, .int (-1), .ref m5_27, .ref m6_28, .ref m7_29, .int 0]), (lw_16, eO 2 [.ref ho, .ref l1_17, .ref l2_18, .ref l3_19, .ref l4_20]), (l1_17, eI (ty 0) 1000 f9_34), (l3_19, eI (ty 0) 8 v9_35)]) C hP hD hS [4, 18, 0, 21, 1, 2, 3, 5, 17, 19, 20] rfl rfl ⟨rk_15, lw_16, l1_17, l2_18, l3_19, l4_20, w1_21, w2_22, m1_23, m2_24, m3_25, m4_26, m5_27, m6_28, m7_29, d9_6, bb, pa9_7, pb9_8, pc9_9, f9_34, v9_35, (by omega), (by omega), hf9_39, rfl, rfl⟩ (by decide) (by decide) d_X8_whyNotDone_117
set_option maxHeartbeats 4000000 in
set_option maxRecDepth 100000 in
theorem c_draft (l : Launch) (D : va_G) (ty : Nat → ClassId) (h0 : Nat) (rd : Nat) (ho : Nat) (nw : Nat) (tr : Nat) (ts : Nat) (im : Nat) (g1 : Nat) (g2 : Nat) (g3 : Nat) (n0 : Nat) (n1 : Nat) (n2 : Nat) (n3 : Nat) (b : Int32) : CC l D ty ⟨"PinchedBill", "draft", "(I)I"⟩ prog_1_method_12_code 4 (some .int) 4 105 0 0 [.ref h0, .int b] [(h0, eO 8 [.ref rd, .ref ho, .ref nw, .ref tr, .ref ts, .ref im, .null]), (ho, eO 0 [.int 0, .int 1, .int 0, .int 0, .int 0, .int 0, .int 0, .int 0, .int 0, .int 0, .ref g1, .ref g2, .ref g3]), (nw, eO 5 [.ref n0, .int 0, .int 0, .ref n1, .ref n2, .ref n3]), (n0, eO 7 [.int 0, .int (-1)]), (n1, eI (ty 0) 10 (fun _ => 0)), (n2, eI (ty 0) 10 (fun _ => 0)), (n3, eI (ty 0) 10 (fun _ => 0))] (QI D ty (fun (r : Int32) (w : va_W) => (dV b) = r ∧ w = [])) := by
  refine CC_of (by decide) ?_
  intro p e s m below meth c A C hP hD hS
  obtain ⟨⟨hx, hb, hml, hown, hts⟩, hr, hlocks, hnm, hK, hE, hA, hZ⟩ := id C
  refine startW [.ref h0, .int b] 4 (nle rfl) (lv := [(0, .ref h0), (1, .int b)]) rfl (fun ls hl => ?_)
  refine lv_iload_n hx hb d_X8_draft_0 rfl (lv_at hl 1 rfl) ?_
  refine lv_if_lt (tgt := 11) hx hb d_X8_draft_1 (by decide) (fun hc_1 => ?_) (fun hc_1 => ?_)
  · refine lv_iconst (v := (-1)) hx hb d_X8_draft_11 (by decide) ?_
    exact ret_I (w := []) C hP hD hS [] rfl rfl ⟨(Eq.symm (dV_a hc_1)), rfl⟩ (by decide) (by decide) d_X8_draft_12
  · refine lv_iload_n hx hb d_X8_draft_4 rfl (lv_at hl 1 rfl) ?_
    refine lv_sipush (v := 1000) hx hb d_X8_draft_5 (by decide) ?_
    refine lv_icmp_lt (tgt := 13) hx hb d_X8_draft_8 (by decide) (fun hc_2 => ?_) (fun hc_2 => ?_)
    · obtain ⟨a9, ha9, rfl⟩ := idx_of (M := 1000) (k := 1000) rfl (by omega) ⟨hc_1, hc_2⟩
      refine lv_aload_n hx hb d_X8_draft_13 rfl (lv_at hl 0 rfl) ?_
      refine r_get (v := .ref nw) C hP 0 rfl rfl lay_X8 2 (by decide) k_322 rfl d_X8_draft_14 ?_
      refine r_get (v := .ref n0) C hP 2 rfl rfl lay_X5 0 (by decide) k_295 rfl d_X8_draft_17 ?_
      refine r_get (v := .int 0) C hP 3 rfl rfl lay_X7 0 (by decide) k_282 rfl d_X8_draft_20 ?_
      refine lv_istore_n (lv' := [(2, .int 0), (0, .ref h0), (1, .int (nI a9))]) hx hb d_X8_draft_23 rfl hl (by decide) rfl (fun ls hl => ?_)
      refine lv_aload_n hx hb d_X8_draft_24 rfl (lv_at hl 1 rfl) ?_
      refine lv_aload_n hx hb d_X8_draft_25 rfl (lv_at hl 1 rfl) ?_
      refine r_get (v := .ref nw) C hP 0 rfl rfl lay_X8 2 (by decide) k_322 rfl d_X8_draft_26 ?_
      refine lv_iload_n hx hb d_X8_draft_29 rfl (lv_at hl 2 rfl) ?_
      refine lv_i2l (v := (lN a9)) hx hb d_X8_draft_30 (nI_l (by omega)) ?_
      have ct_3 : Cut [(h0, eO 8 [.ref rd, .ref ho, .ref nw, .ref tr, .ref ts, .ref im, .null]), (ho, eO 0 [.int 0, .int 1, .int 0, .int 0, .int 0, .int 0, .int 0, .int 0, .int 0, .int 0, .ref g1, .ref g2, .ref g3]), (nw, eO 5 [.ref n0, .int 0, .int 0, .ref n1, .ref n2, .ref n3]), (n0, eO 7 [.int 0, .int (-1)]), (n1, eI (ty 0) 10 (fun _ => 0)), (n2, eI (ty 0) 10 (fun _ => 0)), (n3, eI (ty 0) 10 (fun _ => 0))] [(h0, eO 8 [.ref rd, .ref ho, .ref nw, .ref tr, .ref ts, .ref im, .null]), (ho, eO 0 [.int 0, .int 1, .int 0, .int 0, .int 0, .int 0, .int 0, .int 0, .int 0, .int 0, .ref g1, .ref g2, .ref g3]), (nw, eO 5 [.ref n0, .int 0, .int 0, .ref n1, .ref n2, .ref n3]), (n0, eO 7 [.int 0, .int (-1)]), (n1, eI (ty 0) 10 (fun _ => 0)), (n2, eI (ty 0) 10 (fun _ => 0)), (n3, eI (ty 0) 10 (fun _ => 0))] [] [0, 1, 2, 3, 4, 5, 6] [] := ⟨rfl, rfl, rfl, rfl, by decide⟩
      refine cont_I C hP hD hS ct_3 (run_V (As := [.ref nw, .long (lN a9)]) (rest := []) C hP hD hS ct_3 (c_wndB l D ty h0 rd ho nw tr ts im g1 g2 g3 n0 n1 n2 n3 (.null) 0 0 (fun _ => 0) (fun _ => 0) (fun _ => 0) a9 (by omega) (by omega) ha9) kV_PinchedBill_132 0 rfl rfl rfl rfl hl.1 rfl (nle rfl) d_X8_draft_31 ⟨by decide, by decide, by decide, by decide⟩) (fun r_10 w_11 H locs hw_9 hP hD hS => ?_)
      obtain ⟨d9_4, b9_5, pa9_6, pb9_7, pc9_8, hd9_12, hb9_13, rfl, rfl⟩ := hw_9
      have hP : va_P D vwCl [(h0, eO 8 [.ref rd, .ref ho, .ref nw, .ref tr, .ref ts, .ref im, .null]), (ho, eO 0 [.int 0, .int 1, .int 0, .int 0, .int 0, .int 0, .int 0, .int 0, .int 0, .int 0, .ref g1, .ref g2, .ref g3]), (nw, eO 5 [.ref n0, .int 0, .int (nI d9_4), .ref n1, .ref n2, .ref n3]), (n0, eO 7 [.int (nI b9_5), .int (-1)]), (n1, eI (ty 0) 10 pa9_6), (n2, eI (ty 0) 10 pb9_7), (n3, eI (ty 0) 10 pc9_8)] H := hP
      have hD : va_D A [(h0, eO 8 [.ref rd, .ref ho, .ref nw, .ref tr, .ref ts, .ref im, .null]), (ho, eO 0 [.int 0, .int 1, .int 0, .int 0, .int 0, .int 0, .int 0, .int 0, .int 0, .int 0, .ref g1, .ref g2, .ref g3]), (nw, eO 5 [.ref n0, .int 0, .int (nI d9_4), .ref n1, .ref n2, .ref n3]), (n0, eO 7 [.int (nI b9_5), .int (-1)]), (n1, eI (ty 0) 10 pa9_6), (n2, eI (ty 0) 10 pb9_7), (n3, eI (ty 0) 10 pc9_8)] := hD
      refine lv_istore_n (lv' := [(3, .int (wB a9)), (2, .int 0), (0, .ref h0), (1, .int (nI a9))]) hx hb d_X8_draft_34 rfl hl (by decide) rfl (fun ls hl => ?_)
      refine lv_iload_n hx hb d_X8_draft_35 rfl (lv_at hl 0 rfl) ?_
      refine lv_if_ne (tgt := 43) hx hb d_X8_draft_36 (by decide) (fun hc_14 => ?_) (fun hc_14 => ?_)
      · refine lv_iload_n hx hb d_X8_draft_43 rfl (lv_at hl 0 rfl) ?_
        refine r_ineg (z := (0 - (wB a9))) C d_X8_draft_44 rfl ?_
        exact ret_I (w := []) C hP hD hS [] rfl rfl ⟨(Eq.symm (dV_1 hc_14)), rfl⟩ (by decide) (by decide) d_X8_draft_45
      · refine lv_iload_n hx hb d_X8_draft_39 rfl (lv_at hl 1 rfl) ?_
        refine lv_goto (tgt := 45) hx hb d_X8_draft_40 (by decide) ?_
        exact ret_I (w := []) C hP hD hS [] rfl rfl ⟨(Eq.symm (dV_0 hc_14)), rfl⟩ (by decide) (by decide) d_X8_draft_45
    · refine lv_iconst (v := (-1)) hx hb d_X8_draft_11 (by decide) ?_
      exact ret_I (w := []) C hP hD hS [] rfl rfl ⟨(Eq.symm (dV_b hc_1 hc_2)), rfl⟩ (by decide) (by decide) d_X8_draft_12
set_option maxHeartbeats 4000000 in
set_option maxRecDepth 100000 in
theorem c_seat1000 (l : Launch) (D : va_G) (ty : Nat → ClassId) (h0 : Nat) (rd : Nat) (ho : Nat) (nw : Nat) (tr : Nat) (ts : Nat) (im : Nat) (g1 : Nat) (g2 : Nat) (g3 : Nat) (n0 : Nat) (n1 : Nat) (n2 : Nat) (n3 : Nat) (pn : Int32) : CC l D ty ⟨"PinchedBill", "seatMoved", "(II)I"⟩ prog_1_method_61_code 4 (some .int) 2 52 0 0 [.ref h0, .int 1000, .int pn] [(h0, eO 8 [.ref rd, .ref ho, .ref nw, .ref tr, .ref ts, .ref im, .null]), (ho, eO 0 [.int 0, .int 1, .int 0, .int 0, .int 0, .int 0, .int 0, .int 0, .int 0, .int 0, .ref g1, .ref g2, .ref g3]), (nw, eO 5 [.ref n0, .int 0, .int 0, .ref n1, .ref n2, .ref n3])] (QI D ty (fun (r : Int32) (w : va_W) => (-1) = r ∧ w = [])) := by
  refine CC_of (by decide) ?_
  intro p e s m below meth c A C hP hD hS
  obtain ⟨⟨hx, hb, hml, hown, hts⟩, hr, hlocks, hnm, hK, hE, hA, hZ⟩ := id C
  refine startW [.ref h0, .int 1000, .int pn] 4 (nle rfl) (lv := [(0, .ref h0), (1, .int 1000), (2, .int pn)]) rfl (fun ls hl => ?_)
  refine lv_iload_n hx hb d_X8_seatMoved_0 rfl (lv_at hl 2 rfl) ?_
  refine lv_if_lt (tgt := 10) hx hb d_X8_seatMoved_1 (by decide) (fun hc_1 => ?_) (fun hc_1 => ?_)
  · refine lv_iconst (v := (-1)) hx hb d_X8_seatMoved_10 (by decide) ?_
    exact ret_I (w := []) C hP hD hS [] rfl rfl ⟨rfl, rfl⟩ (by decide) (by decide) d_X8_seatMoved_11
  · refine lv_iload_n hx hb d_X8_seatMoved_4 rfl (lv_at hl 2 rfl) ?_
    refine lv_bipush (v := 8) hx hb d_X8_seatMoved_5 (by decide) ?_
    refine lv_icmp_lt (tgt := 12) hx hb d_X8_seatMoved_7 (by decide) (fun hc_2 => ?_) (fun hc_2 => ?_)
    · obtain ⟨a9, ha9, rfl⟩ := idx_of (M := 8) (k := 8) rfl (by omega) ⟨hc_1, hc_2⟩
      refine lv_aload_n hx hb d_X8_seatMoved_12 rfl (lv_at hl 0 rfl) ?_
      refine lv_aload_n hx hb d_X8_seatMoved_13 rfl (lv_at hl 0 rfl) ?_
      refine r_get (v := .ref nw) C hP 0 rfl rfl lay_X8 2 (by decide) k_322 rfl d_X8_seatMoved_14 ?_
      refine lv_iload_n hx hb d_X8_seatMoved_17 rfl (lv_at hl 1 rfl) ?_
      refine lv_iload_n hx hb d_X8_seatMoved_18 rfl (lv_at hl 2 rfl) ?_
      refine r_iadd (z := (nI (1000 + a9))) C d_X8_seatMoved_19 (a_add 1000 a9 (1000 + a9) rfl rfl (by omega)) ?_
      refine lv_i2l (v := (lN (1000 + a9))) hx hb d_X8_seatMoved_20 (nI_l (by omega)) ?_
      have ct_3 : Cut [(h0, eO 8 [.ref rd, .ref ho, .ref nw, .ref tr, .ref ts, .ref im, .null]), (ho, eO 0 [.int 0, .int 1, .int 0, .int 0, .int 0, .int 0, .int 0, .int 0, .int 0, .int 0, .ref g1, .ref g2, .ref g3]), (nw, eO 5 [.ref n0, .int 0, .int 0, .ref n1, .ref n2, .ref n3])] [(h0, eO 8 [.ref rd, .ref ho, .ref nw, .ref tr, .ref ts, .ref im, .null]), (ho, eO 0 [.int 0, .int 1, .int 0, .int 0, .int 0, .int 0, .int 0, .int 0, .int 0, .int 0, .ref g1, .ref g2, .ref g3]), (nw, eO 5 [.ref n0, .int 0, .int 0, .ref n1, .ref n2, .ref n3])] [] [0, 1, 2] [] := ⟨rfl, rfl, rfl, rfl, by decide⟩
      refine cont_I C hP hD hS ct_3 (run_V (As := [.ref nw, .long (lN (1000 + a9))]) (rest := []) C hP hD hS ct_3 (c_wndP l D ty h0 rd ho nw tr ts im g1 g2 g3 n0 n1 n2 n3 (.null) 0 (1000 + a9) (by omega) (by omega)) kV_PinchedBill_132 0 rfl rfl rfl rfl hl.1 rfl (nle rfl) d_X8_seatMoved_21 ⟨by decide, by decide, by decide, by decide⟩) (fun r_5 w_6 H locs hw_4 hP hD hS => ?_)
      obtain ⟨rfl, rfl⟩ := hw_4
      have hP : va_P D vwCl [(h0, eO 8 [.ref rd, .ref ho, .ref nw, .ref tr, .ref ts, .ref im, .null]), (ho, eO 0 [.int 0, .int 1, .int 0, .int 0, .int 0, .int 0, .int 0, .int 0, .int 0, .int 0, .ref g1, .ref g2, .ref g3]), (nw, eO 5 [.ref n0, .int 0, .int 0, .ref n1, .ref n2, .ref n3])] H := hP
      have hD : va_D A [(h0, eO 8 [.ref rd, .ref ho, .ref nw, .ref tr, .ref ts, .ref im, .null]), (ho, eO 0 [.int 0, .int 1, .int 0, .int 0, .int 0, .int 0, .int 0, .int 0, .int 0, .int 0, .ref g1, .ref g2, .ref g3]), (nw, eO 5 [.ref n0, .int 0, .int 0, .ref n1, .ref n2, .ref n3])] := hD
      refine lv_istore_n (lv' := [(3, .int 1), (0, .ref h0), (1, .int 1000), (2, .int (nI a9))]) hx hb d_X8_seatMoved_24 rfl hl (by decide) rfl (fun ls hl => ?_)
      refine lv_iload_n hx hb d_X8_seatMoved_25 rfl (lv_at hl 0 rfl) ?_
      refine b_if_neT C 42 d_X8_seatMoved_26 (by decide) (by decide) ?_
      refine lv_iload_n hx hb d_X8_seatMoved_42 rfl (lv_at hl 0 rfl) ?_
      refine r_ineg (z := (-1)) C d_X8_seatMoved_43 (by decide) ?_
      exact ret_I (w := []) C hP hD hS [] rfl rfl ⟨rfl, rfl⟩ (by decide) (by decide) d_X8_seatMoved_44
    · refine lv_iconst (v := (-1)) hx hb d_X8_seatMoved_10 (by decide) ?_
      exact ret_I (w := []) C hP hD hS [] rfl rfl ⟨rfl, rfl⟩ (by decide) (by decide) d_X8_seatMoved_11
set_option maxHeartbeats 4000000 in
set_option maxRecDepth 100000 in
theorem c_seat2000 (l : Launch) (D : va_G) (ty : Nat → ClassId) (h0 : Nat) (rd : Nat) (ho : Nat) (nw : Nat) (tr : Nat) (ts : Nat) (im : Nat) (g1 : Nat) (g2 : Nat) (g3 : Nat) (n0 : Nat) (n1 : Nat) (n2 : Nat) (n3 : Nat) (pn : Int32) : CC l D ty ⟨"PinchedBill", "seatMoved", "(II)I"⟩ prog_1_method_61_code 4 (some .int) 2 52 0 0 [.ref h0, .int 2000, .int pn] [(h0, eO 8 [.ref rd, .ref ho, .ref nw, .ref tr, .ref ts, .ref im, .null]), (ho, eO 0 [.int 0, .int 1, .int 0, .int 0, .int 0, .int 0, .int 0, .int 0, .int 0, .int 0, .ref g1, .ref g2, .ref g3]), (nw, eO 5 [.ref n0, .int 0, .int 0, .ref n1, .ref n2, .ref n3])] (QI D ty (fun (r : Int32) (w : va_W) => (-1) = r ∧ w = [])) := by
  refine CC_of (by decide) ?_
  intro p e s m below meth c A C hP hD hS
  obtain ⟨⟨hx, hb, hml, hown, hts⟩, hr, hlocks, hnm, hK, hE, hA, hZ⟩ := id C
  refine startW [.ref h0, .int 2000, .int pn] 4 (nle rfl) (lv := [(0, .ref h0), (1, .int 2000), (2, .int pn)]) rfl (fun ls hl => ?_)
  refine lv_iload_n hx hb d_X8_seatMoved_0 rfl (lv_at hl 2 rfl) ?_
  refine lv_if_lt (tgt := 10) hx hb d_X8_seatMoved_1 (by decide) (fun hc_1 => ?_) (fun hc_1 => ?_)
  · refine lv_iconst (v := (-1)) hx hb d_X8_seatMoved_10 (by decide) ?_
    exact ret_I (w := []) C hP hD hS [] rfl rfl ⟨rfl, rfl⟩ (by decide) (by decide) d_X8_seatMoved_11
  · refine lv_iload_n hx hb d_X8_seatMoved_4 rfl (lv_at hl 2 rfl) ?_
    refine lv_bipush (v := 8) hx hb d_X8_seatMoved_5 (by decide) ?_
    refine lv_icmp_lt (tgt := 12) hx hb d_X8_seatMoved_7 (by decide) (fun hc_2 => ?_) (fun hc_2 => ?_)
    · obtain ⟨a9, ha9, rfl⟩ := idx_of (M := 8) (k := 8) rfl (by omega) ⟨hc_1, hc_2⟩
      refine lv_aload_n hx hb d_X8_seatMoved_12 rfl (lv_at hl 0 rfl) ?_
      refine lv_aload_n hx hb d_X8_seatMoved_13 rfl (lv_at hl 0 rfl) ?_
      refine r_get (v := .ref nw) C hP 0 rfl rfl lay_X8 2 (by decide) k_322 rfl d_X8_seatMoved_14 ?_
      refine lv_iload_n hx hb d_X8_seatMoved_17 rfl (lv_at hl 1 rfl) ?_
      refine lv_iload_n hx hb d_X8_seatMoved_18 rfl (lv_at hl 2 rfl) ?_
      refine r_iadd (z := (nI (2000 + a9))) C d_X8_seatMoved_19 (a_add 2000 a9 (2000 + a9) rfl rfl (by omega)) ?_
      refine lv_i2l (v := (lN (2000 + a9))) hx hb d_X8_seatMoved_20 (nI_l (by omega)) ?_
      have ct_3 : Cut [(h0, eO 8 [.ref rd, .ref ho, .ref nw, .ref tr, .ref ts, .ref im, .null]), (ho, eO 0 [.int 0, .int 1, .int 0, .int 0, .int 0, .int 0, .int 0, .int 0, .int 0, .int 0, .ref g1, .ref g2, .ref g3]), (nw, eO 5 [.ref n0, .int 0, .int 0, .ref n1, .ref n2, .ref n3])] [(h0, eO 8 [.ref rd, .ref ho, .ref nw, .ref tr, .ref ts, .ref im, .null]), (ho, eO 0 [.int 0, .int 1, .int 0, .int 0, .int 0, .int 0, .int 0, .int 0, .int 0, .int 0, .ref g1, .ref g2, .ref g3]), (nw, eO 5 [.ref n0, .int 0, .int 0, .ref n1, .ref n2, .ref n3])] [] [0, 1, 2] [] := ⟨rfl, rfl, rfl, rfl, by decide⟩
      refine cont_I C hP hD hS ct_3 (run_V (As := [.ref nw, .long (lN (2000 + a9))]) (rest := []) C hP hD hS ct_3 (c_wndP l D ty h0 rd ho nw tr ts im g1 g2 g3 n0 n1 n2 n3 (.null) 0 (2000 + a9) (by omega) (by omega)) kV_PinchedBill_132 0 rfl rfl rfl rfl hl.1 rfl (nle rfl) d_X8_seatMoved_21 ⟨by decide, by decide, by decide, by decide⟩) (fun r_5 w_6 H locs hw_4 hP hD hS => ?_)
      obtain ⟨rfl, rfl⟩ := hw_4
      have hP : va_P D vwCl [(h0, eO 8 [.ref rd, .ref ho, .ref nw, .ref tr, .ref ts, .ref im, .null]), (ho, eO 0 [.int 0, .int 1, .int 0, .int 0, .int 0, .int 0, .int 0, .int 0, .int 0, .int 0, .ref g1, .ref g2, .ref g3]), (nw, eO 5 [.ref n0, .int 0, .int 0, .ref n1, .ref n2, .ref n3])] H := hP
      have hD : va_D A [(h0, eO 8 [.ref rd, .ref ho, .ref nw, .ref tr, .ref ts, .ref im, .null]), (ho, eO 0 [.int 0, .int 1, .int 0, .int 0, .int 0, .int 0, .int 0, .int 0, .int 0, .int 0, .ref g1, .ref g2, .ref g3]), (nw, eO 5 [.ref n0, .int 0, .int 0, .ref n1, .ref n2, .ref n3])] := hD
      refine lv_istore_n (lv' := [(3, .int 1), (0, .ref h0), (1, .int 2000), (2, .int (nI a9))]) hx hb d_X8_seatMoved_24 rfl hl (by decide) rfl (fun ls hl => ?_)
      refine lv_iload_n hx hb d_X8_seatMoved_25 rfl (lv_at hl 0 rfl) ?_
      refine b_if_neT C 42 d_X8_seatMoved_26 (by decide) (by decide) ?_
      refine lv_iload_n hx hb d_X8_seatMoved_42 rfl (lv_at hl 0 rfl) ?_
      refine r_ineg (z := (-1)) C d_X8_seatMoved_43 (by decide) ?_
      exact ret_I (w := []) C hP hD hS [] rfl rfl ⟨rfl, rfl⟩ (by decide) (by decide) d_X8_seatMoved_44
    · refine lv_iconst (v := (-1)) hx hb d_X8_seatMoved_10 (by decide) ?_
      exact ret_I (w := []) C hP hD hS [] rfl rfl ⟨rfl, rfl⟩ (by decide) (by decide) d_X8_seatMoved_11
set_option maxHeartbeats 4000000 in
set_option maxRecDepth 100000 in
theorem c_send (l : Launch) (D : va_G) (ty : Nat → ClassId) (h0 : Nat) (rd : Nat) (ho : Nat) (nw : Nat) (tr : Nat) (ts : Nat) (im : Nat) (g1 : Nat) (g2 : Nat) (g3 : Nat) (n0 : Nat) (n1 : Nat) (n2 : Nat) (n3 : Nat) (pn : Int32) : CC l D ty ⟨"PinchedBill", "send", "(I)I"⟩ prog_1_method_13_code 2 (some .int) 3 75 0 0 [.ref h0, .int pn] [(h0, eO 8 [.ref rd, .ref ho, .ref nw, .ref tr, .ref ts, .ref im, .null]), (ho, eO 0 [.int 0, .int 1, .int 0, .int 0, .int 0, .int 0, .int 0, .int 0, .int 0, .int 0, .ref g1, .ref g2, .ref g3]), (nw, eO 5 [.ref n0, .int 0, .int 0, .ref n1, .ref n2, .ref n3])] (QI D ty (fun (r : Int32) (w : va_W) => (-1) = r ∧ w = [])) := by
  refine CC_of (by decide) ?_
  intro p e s m below meth c A C hP hD hS
  obtain ⟨⟨hx, hb, hml, hown, hts⟩, hr, hlocks, hnm, hK, hE, hA, hZ⟩ := id C
  refine startW [.ref h0, .int pn] 2 (nle rfl) (lv := [(0, .ref h0), (1, .int pn)]) rfl (fun ls hl => ?_)
  refine lv_aload_n hx hb d_X8_send_0 rfl (lv_at hl 0 rfl) ?_
  refine lv_sipush (v := 1000) hx hb d_X8_send_1 (by decide) ?_
  refine lv_iload_n hx hb d_X8_send_4 rfl (lv_at hl 1 rfl) ?_
  have ct_1 : Cut [(h0, eO 8 [.ref rd, .ref ho, .ref nw, .ref tr, .ref ts, .ref im, .null]), (ho, eO 0 [.int 0, .int 1, .int 0, .int 0, .int 0, .int 0, .int 0, .int 0, .int 0, .int 0, .ref g1, .ref g2, .ref g3]), (nw, eO 5 [.ref n0, .int 0, .int 0, .ref n1, .ref n2, .ref n3])] [(h0, eO 8 [.ref rd, .ref ho, .ref nw, .ref tr, .ref ts, .ref im, .null]), (ho, eO 0 [.int 0, .int 1, .int 0, .int 0, .int 0, .int 0, .int 0, .int 0, .int 0, .int 0, .ref g1, .ref g2, .ref g3]), (nw, eO 5 [.ref n0, .int 0, .int 0, .ref n1, .ref n2, .ref n3])] [] [0, 1, 2] [] := ⟨rfl, rfl, rfl, rfl, by decide⟩
  refine cont_I C hP hD hS ct_1 (run_V (As := [.int 1000, .int pn]) (rest := []) C hP hD hS ct_1 (c_seat1000 l D ty h0 rd ho nw tr ts im g1 g2 g3 n0 n1 n2 n3 pn) kV_PinchedBill_136 0 rfl rfl rfl rfl hl.1 rfl (nle rfl) d_X8_send_5 ⟨by decide, by decide, by decide, by decide⟩) (fun r_3 w_4 H locs hw_2 hP hD hS => ?_)
  obtain ⟨rfl, rfl⟩ := hw_2
  have hP : va_P D vwCl [] H := hP
  have hD : va_D A [] := hD
  exact ret_I (w := []) C hP hD hS [] rfl rfl ⟨rfl, rfl⟩ (by decide) (by decide) d_X8_send_8
set_option maxHeartbeats 4000000 in
set_option maxRecDepth 100000 in
theorem c_call (l : Launch) (D : va_G) (ty : Nat → ClassId) (h0 : Nat) (rd : Nat) (ho : Nat) (nw : Nat) (tr : Nat) (ts : Nat) (im : Nat) (g1 : Nat) (g2 : Nat) (g3 : Nat) (n0 : Nat) (n1 : Nat) (n2 : Nat) (n3 : Nat) (pn : Int32) : CC l D ty ⟨"PinchedBill", "call", "(I)I"⟩ prog_1_method_14_code 2 (some .int) 3 75 0 0 [.ref h0, .int pn] [(h0, eO 8 [.ref rd, .ref ho, .ref nw, .ref tr, .ref ts, .ref im, .null]), (ho, eO 0 [.int 0, .int 1, .int 0, .int 0, .int 0, .int 0, .int 0, .int 0, .int 0, .int 0, .ref g1, .ref g2, .ref g3]), (nw, eO 5 [.ref n0, .int 0, .int 0, .ref n1, .ref n2, .ref n3])] (QI D ty (fun (r : Int32) (w : va_W) => (-1) = r ∧ w = [])) := by
  refine CC_of (by decide) ?_
  intro p e s m below meth c A C hP hD hS
  obtain ⟨⟨hx, hb, hml, hown, hts⟩, hr, hlocks, hnm, hK, hE, hA, hZ⟩ := id C
  refine startW [.ref h0, .int pn] 2 (nle rfl) (lv := [(0, .ref h0), (1, .int pn)]) rfl (fun ls hl => ?_)
  refine lv_aload_n hx hb d_X8_call_0 rfl (lv_at hl 0 rfl) ?_
  refine lv_sipush (v := 2000) hx hb d_X8_call_1 (by decide) ?_
  refine lv_iload_n hx hb d_X8_call_4 rfl (lv_at hl 1 rfl) ?_
  have ct_1 : Cut [(h0, eO 8 [.ref rd, .ref ho, .ref nw, .ref tr, .ref ts, .ref im, .null]), (ho, eO 0 [.int 0, .int 1, .int 0, .int 0, .int 0, .int 0, .int 0, .int 0, .int 0, .int 0, .ref g1, .ref g2, .ref g3]), (nw, eO 5 [.ref n0, .int 0, .int 0, .ref n1, .ref n2, .ref n3])] [(h0, eO 8 [.ref rd, .ref ho, .ref nw, .ref tr, .ref ts, .ref im, .null]), (ho, eO 0 [.int 0, .int 1, .int 0, .int 0, .int 0, .int 0, .int 0, .int 0, .int 0, .int 0, .ref g1, .ref g2, .ref g3]), (nw, eO 5 [.ref n0, .int 0, .int 0, .ref n1, .ref n2, .ref n3])] [] [0, 1, 2] [] := ⟨rfl, rfl, rfl, rfl, by decide⟩
  refine cont_I C hP hD hS ct_1 (run_V (As := [.int 2000, .int pn]) (rest := []) C hP hD hS ct_1 (c_seat2000 l D ty h0 rd ho nw tr ts im g1 g2 g3 n0 n1 n2 n3 pn) kV_PinchedBill_136 0 rfl rfl rfl rfl hl.1 rfl (nle rfl) d_X8_call_5 ⟨by decide, by decide, by decide, by decide⟩) (fun r_3 w_4 H locs hw_2 hP hD hS => ?_)
  obtain ⟨rfl, rfl⟩ := hw_2
  have hP : va_P D vwCl [] H := hP
  have hD : va_D A [] := hD
  exact ret_I (w := []) C hP hD hS [] rfl rfl ⟨rfl, rfl⟩ (by decide) (by decide) d_X8_call_8
set_option maxHeartbeats 4000000 in
set_option maxRecDepth 100000 in
theorem c_drawn (l : Launch) (D : va_G) (ty : Nat → ClassId) (x : Int32) : CC l D ty ⟨"PinchedBill", "drawnFrom", "(I)I"⟩ prog_1_method_65_code 1 (some .int) 0 0 0 0 [.int x] [] (QI D ty (fun (r : Int32) (w : va_W) => (wx x) = r ∧ w = [])) := by
  refine CC_of (by decide) ?_
  intro p e s m below meth c A C hP hD hS
  obtain ⟨⟨hx, hb, hml, hown, hts⟩, hr, hlocks, hnm, hK, hE, hA, hZ⟩ := id C
  refine startW [.int x] 1 (nle rfl) (lv := [(0, .int x)]) rfl (fun ls hl => ?_)
  refine lv_ldcw hx hb hown (hts _ k_1124) d_X8_drawnFrom_0 ?_
  refine lv_iload_n hx hb d_X8_drawnFrom_3 rfl (lv_at hl 0 rfl) ?_
  refine r_imul (z := (1103515245 * x)) C d_X8_drawnFrom_4 rfl ?_
  refine lv_sipush (v := 12345) hx hb d_X8_drawnFrom_5 (by decide) ?_
  refine r_iadd (z := ((1103515245 * x) + 12345)) C d_X8_drawnFrom_8 rfl ?_
  exact ret_I (w := []) C hP hD hS [] rfl rfl ⟨(Eq.symm (by unfold wx; rfl)), rfl⟩ (by decide) (by decide) d_X8_drawnFrom_9
set_option maxHeartbeats 4000000 in
set_option maxRecDepth 100000 in
theorem c_told2 (l : Launch) (D : va_G) (ty : Nat → ClassId) (dr : Nat) (hdr : dr < 65536) : CC l D ty ⟨"PinchedBill", "toldInWinter", "(II)I"⟩ prog_1_method_66_code 2 (some .int) 0 0 0 0 [.int 2, .int (nI dr)] [] (QI D ty (fun (r : Int32) (w : va_W) => (nI (dr % 1000)) = r ∧ w = [])) := by
  refine CC_of (by decide) ?_
  intro p e s m below meth c A C hP hD hS
  obtain ⟨⟨hx, hb, hml, hown, hts⟩, hr, hlocks, hnm, hK, hE, hA, hZ⟩ := id C
  refine startW [.int 2, .int (nI dr)] 2 (nle rfl) (lv := [(0, .int 2), (1, .int (nI dr))]) rfl (fun ls hl => ?_)
  refine lv_iload_n hx hb d_X8_toldInWinter_0 rfl (lv_at hl 0 rfl) ?_
  refine lv_iconst (v := 2) hx hb d_X8_toldInWinter_1 (by decide) ?_
  refine b_icmp_neF C 11 d_X8_toldInWinter_2 (by decide) (by decide) ?_
  refine lv_iload_n hx hb d_X8_toldInWinter_5 rfl (lv_at hl 1 rfl) ?_
  refine lv_sipush (v := 1000) hx hb d_X8_toldInWinter_6 (by decide) ?_
  refine r_irem (z := (nI (dr % 1000))) C d_X8_toldInWinter_9 (by decide) (a_rem dr 1000 (dr % 1000) rfl rfl (by omega) (by omega) (by omega) rfl) ?_
  exact ret_I (w := []) C hP hD hS [] rfl rfl ⟨rfl, rfl⟩ (by decide) (by decide) d_X8_toldInWinter_10
set_option maxHeartbeats 4000000 in
set_option maxRecDepth 100000 in
theorem c_told3 (l : Launch) (D : va_G) (ty : Nat → ClassId) (dr : Nat) (hdr : dr < 65536) : CC l D ty ⟨"PinchedBill", "toldInWinter", "(II)I"⟩ prog_1_method_66_code 2 (some .int) 0 0 0 0 [.int 3, .int (nI dr)] [] (QI D ty (fun (r : Int32) (w : va_W) => (nI (1000 + (dr % 8))) = r ∧ w = [])) := by
  refine CC_of (by decide) ?_
  intro p e s m below meth c A C hP hD hS
  obtain ⟨⟨hx, hb, hml, hown, hts⟩, hr, hlocks, hnm, hK, hE, hA, hZ⟩ := id C
  refine startW [.int 3, .int (nI dr)] 2 (nle rfl) (lv := [(0, .int 3), (1, .int (nI dr))]) rfl (fun ls hl => ?_)
  refine lv_iload_n hx hb d_X8_toldInWinter_0 rfl (lv_at hl 0 rfl) ?_
  refine lv_iconst (v := 2) hx hb d_X8_toldInWinter_1 (by decide) ?_
  refine b_icmp_neT C 11 d_X8_toldInWinter_2 (by decide) (by decide) ?_
  refine lv_iload_n hx hb d_X8_toldInWinter_11 rfl (lv_at hl 0 rfl) ?_
  refine lv_iconst (v := 3) hx hb d_X8_toldInWinter_12 (by decide) ?_
  refine b_icmp_neF C 22 d_X8_toldInWinter_13 (by decide) (by decide) ?_
  refine lv_sipush (v := 1000) hx hb d_X8_toldInWinter_16 (by decide) ?_
  refine lv_goto (tgt := 25) hx hb d_X8_toldInWinter_19 (by decide) ?_
  refine lv_iload_n hx hb d_X8_toldInWinter_25 rfl (lv_at hl 1 rfl) ?_
  refine lv_bipush (v := 8) hx hb d_X8_toldInWinter_26 (by decide) ?_
  refine r_irem (z := (nI (dr % 8))) C d_X8_toldInWinter_28 (by decide) (a_rem dr 8 (dr % 8) rfl rfl (by omega) (by omega) (by omega) rfl) ?_
  refine r_iadd (z := (nI (1000 + (dr % 8)))) C d_X8_toldInWinter_29 (a_add 1000 (dr % 8) (1000 + (dr % 8)) rfl rfl (by omega)) ?_
  exact ret_I (w := []) C hP hD hS [] rfl rfl ⟨rfl, rfl⟩ (by decide) (by decide) d_X8_toldInWinter_30
set_option maxHeartbeats 4000000 in
set_option maxRecDepth 100000 in
theorem c_told4 (l : Launch) (D : va_G) (ty : Nat → ClassId) (dr : Nat) (hdr : dr < 65536) : CC l D ty ⟨"PinchedBill", "toldInWinter", "(II)I"⟩ prog_1_method_66_code 2 (some .int) 0 0 0 0 [.int 4, .int (nI dr)] [] (QI D ty (fun (r : Int32) (w : va_W) => (nI (2000 + (dr % 8))) = r ∧ w = [])) := by
  refine CC_of (by decide) ?_
  intro p e s m below meth c A C hP hD hS
  obtain ⟨⟨hx, hb, hml, hown, hts⟩, hr, hlocks, hnm, hK, hE, hA, hZ⟩ := id C
  refine startW [.int 4, .int (nI dr)] 2 (nle rfl) (lv := [(0, .int 4), (1, .int (nI dr))]) rfl (fun ls hl => ?_)
  refine lv_iload_n hx hb d_X8_toldInWinter_0 rfl (lv_at hl 0 rfl) ?_
  refine lv_iconst (v := 2) hx hb d_X8_toldInWinter_1 (by decide) ?_
  refine b_icmp_neT C 11 d_X8_toldInWinter_2 (by decide) (by decide) ?_
  refine lv_iload_n hx hb d_X8_toldInWinter_11 rfl (lv_at hl 0 rfl) ?_
  refine lv_iconst (v := 3) hx hb d_X8_toldInWinter_12 (by decide) ?_
  refine b_icmp_neT C 22 d_X8_toldInWinter_13 (by decide) (by decide) ?_
  refine lv_sipush (v := 2000) hx hb d_X8_toldInWinter_22 (by decide) ?_
  refine lv_iload_n hx hb d_X8_toldInWinter_25 rfl (lv_at hl 1 rfl) ?_
  refine lv_bipush (v := 8) hx hb d_X8_toldInWinter_26 (by decide) ?_
  refine r_irem (z := (nI (dr % 8))) C d_X8_toldInWinter_28 (by decide) (a_rem dr 8 (dr % 8) rfl rfl (by omega) (by omega) (by omega) rfl) ?_
  refine r_iadd (z := (nI (2000 + (dr % 8)))) C d_X8_toldInWinter_29 (a_add 2000 (dr % 8) (2000 + (dr % 8)) rfl rfl (by omega)) ?_
  exact ret_I (w := []) C hP hD hS [] rfl rfl ⟨rfl, rfl⟩ (by decide) (by decide) d_X8_toldInWinter_30

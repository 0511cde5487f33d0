theorem d_J7_fill_53178_0 : decode prog_30_method_103_code 0 = .ok (.iconst 0, 1) := by decide +kernel
theorem d_J7_fill_53178_1 : decode prog_30_method_103_code 1 = .ok (.istore_n 2, 1) := by decide +kernel
theorem d_J7_fill_53178_2 : decode prog_30_method_103_code 2 = .ok (.aload_n 0, 1) := by decide +kernel
theorem d_J7_fill_53178_3 : decode prog_30_method_103_code 3 = .ok (.arraylength, 1) := by decide +kernel
theorem d_J7_fill_53178_4 : decode prog_30_method_103_code 4 = .ok (.istore_n 3, 1) := by decide +kernel
theorem d_J7_fill_53178_5 : decode prog_30_method_103_code 5 = .ok (.iload_n 2, 1) := by decide +kernel
theorem d_J7_fill_53178_6 : decode prog_30_method_103_code 6 = .ok (.iload_n 3, 1) := by decide +kernel
theorem d_J7_fill_53178_7 : decode prog_30_method_103_code 7 = .ok (.if_icmp .ge 13, 3) := by decide +kernel
theorem d_J7_fill_53178_20 : decode prog_30_method_103_code 20 = .ok (.return_, 1) := by decide +kernel
theorem d_J7_fill_53178_10 : decode prog_30_method_103_code 10 = .ok (.aload_n 0, 1) := by decide +kernel
theorem d_J7_fill_53178_11 : decode prog_30_method_103_code 11 = .ok (.iload_n 2, 1) := by decide +kernel
theorem d_J7_fill_53178_12 : decode prog_30_method_103_code 12 = .ok (.iload_n 1, 1) := by decide +kernel
theorem d_J7_fill_53178_13 : decode prog_30_method_103_code 13 = .ok (.iastore, 1) := by decide +kernel
theorem d_J7_fill_53178_14 : decode prog_30_method_103_code 14 = .ok (.iinc 2 1, 3) := by decide +kernel
theorem d_J7_fill_53178_17 : decode prog_30_method_103_code 17 = .ok (.goto (-12), 3) := by decide +kernel
theorem d_J7_fill_d0a16_0 : decode prog_30_method_101_code 0 = .ok (.iconst 0, 1) := by decide +kernel
theorem d_J7_fill_d0a16_1 : decode prog_30_method_101_code 1 = .ok (.istore_n 3, 1) := by decide +kernel
theorem d_J7_fill_d0a16_2 : decode prog_30_method_101_code 2 = .ok (.aload_n 0, 1) := by decide +kernel
theorem d_J7_fill_d0a16_3 : decode prog_30_method_101_code 3 = .ok (.arraylength, 1) := by decide +kernel
theorem d_J7_fill_d0a16_4 : decode prog_30_method_101_code 4 = .ok (.istore 4, 2) := by decide +kernel
theorem d_J7_fill_d0a16_6 : decode prog_30_method_101_code 6 = .ok (.iload_n 3, 1) := by decide +kernel
theorem d_J7_fill_d0a16_7 : decode prog_30_method_101_code 7 = .ok (.iload 4, 2) := by decide +kernel
theorem d_J7_fill_d0a16_9 : decode prog_30_method_101_code 9 = .ok (.if_icmp .ge 13, 3) := by decide +kernel
theorem d_J7_fill_d0a16_22 : decode prog_30_method_101_code 22 = .ok (.return_, 1) := by decide +kernel
theorem d_J7_fill_d0a16_12 : decode prog_30_method_101_code 12 = .ok (.aload_n 0, 1) := by decide +kernel
theorem d_J7_fill_d0a16_13 : decode prog_30_method_101_code 13 = .ok (.iload_n 3, 1) := by decide +kernel
theorem d_J7_fill_d0a16_14 : decode prog_30_method_101_code 14 = .ok (.lload_n 1, 1) := by decide +kernel
theorem d_J7_fill_d0a16_15 : decode prog_30_method_101_code 15 = .ok (.lastore, 1) := by decide +kernel
theorem d_J7_fill_d0a16_16 : decode prog_30_method_101_code 16 = .ok (.iinc 3 1, 3) := by decide +kernel
theorem d_J7_fill_d0a16_19 : decode prog_30_method_101_code 19 = .ok (.goto (-13), 3) := by decide +kernel
theorem d_J6_bitCount_0f7a4_0 : decode prog_20_method_49_code 0 = .ok (.iload_n 0, 1) := by decide +kernel
theorem d_J6_bitCount_0f7a4_1 : decode prog_20_method_49_code 1 = .ok (.iload_n 0, 1) := by decide +kernel
theorem d_J6_bitCount_0f7a4_2 : decode prog_20_method_49_code 2 = .ok (.iconst 1, 1) := by decide +kernel
theorem d_J6_bitCount_0f7a4_3 : decode prog_20_method_49_code 3 = .ok (.iushr, 1) := by decide +kernel
theorem k_513 : Cond.constant "java/lang/Integer" 265 1431655765 ∈ gd_tbl := gd_in 513 (by decide +kernel) (by decide +kernel)
theorem d_J6_bitCount_0f7a4_4 : decode prog_20_method_49_code 4 = .ok (.ldc_w 265, 3) := by decide +kernel
theorem d_J6_bitCount_0f7a4_7 : decode prog_20_method_49_code 7 = .ok (.iand, 1) := by decide +kernel
theorem d_J6_bitCount_0f7a4_8 : decode prog_20_method_49_code 8 = .ok (.isub, 1) := by decide +kernel
theorem d_J6_bitCount_0f7a4_9 : decode prog_20_method_49_code 9 = .ok (.istore_n 0, 1) := by decide +kernel
theorem d_J6_bitCount_0f7a4_10 : decode prog_20_method_49_code 10 = .ok (.iload_n 0, 1) := by decide +kernel
theorem k_514 : Cond.constant "java/lang/Integer" 266 858993459 ∈ gd_tbl := gd_in 514 (by decide +kernel) (by decide +kernel)
theorem d_J6_bitCount_0f7a4_11 : decode prog_20_method_49_code 11 = .ok (.ldc_w 266, 3) := by decide +kernel
theorem d_J6_bitCount_0f7a4_14 : decode prog_20_method_49_code 14 = .ok (.iand, 1) := by decide +kernel
theorem d_J6_bitCount_0f7a4_15 : decode prog_20_method_49_code 15 = .ok (.iload_n 0, 1) := by decide +kernel
theorem d_J6_bitCount_0f7a4_16 : decode prog_20_method_49_code 16 = .ok (.iconst 2, 1) := by decide +kernel
theorem d_J6_bitCount_0f7a4_17 : decode prog_20_method_49_code 17 = .ok (.iushr, 1) := by decide +kernel
theorem d_J6_bitCount_0f7a4_18 : decode prog_20_method_49_code 18 = .ok (.ldc_w 266, 3) := by decide +kernel
theorem d_J6_bitCount_0f7a4_21 : decode prog_20_method_49_code 21 = .ok (.iand, 1) := by decide +kernel
theorem d_J6_bitCount_0f7a4_22 : decode prog_20_method_49_code 22 = .ok (.iadd, 1) := by decide +kernel
theorem d_J6_bitCount_0f7a4_23 : decode prog_20_method_49_code 23 = .ok (.istore_n 0, 1) := by decide +kernel
theorem d_J6_bitCount_0f7a4_24 : decode prog_20_method_49_code 24 = .ok (.iload_n 0, 1) := by decide +kernel
theorem d_J6_bitCount_0f7a4_25 : decode prog_20_method_49_code 25 = .ok (.iload_n 0, 1) := by decide +kernel
theorem d_J6_bitCount_0f7a4_26 : decode prog_20_method_49_code 26 = .ok (.iconst 4, 1) := by decide +kernel
theorem d_J6_bitCount_0f7a4_27 : decode prog_20_method_49_code 27 = .ok (.iushr, 1) := by decide +kernel
theorem d_J6_bitCount_0f7a4_28 : decode prog_20_method_49_code 28 = .ok (.iadd, 1) := by decide +kernel
theorem k_515 : Cond.constant "java/lang/Integer" 267 252645135 ∈ gd_tbl := gd_in 515 (by decide +kernel) (by decide +kernel)
theorem d_J6_bitCount_0f7a4_29 : decode prog_20_method_49_code 29 = .ok (.ldc_w 267, 3) := by decide +kernel
theorem d_J6_bitCount_0f7a4_32 : decode prog_20_method_49_code 32 = .ok (.iand, 1) := by decide +kernel
theorem d_J6_bitCount_0f7a4_33 : decode prog_20_method_49_code 33 = .ok (.istore_n 0, 1) := by decide +kernel
theorem d_J6_bitCount_0f7a4_34 : decode prog_20_method_49_code 34 = .ok (.iload_n 0, 1) := by decide +kernel
theorem d_J6_bitCount_0f7a4_35 : decode prog_20_method_49_code 35 = .ok (.iload_n 0, 1) := by decide +kernel
theorem d_J6_bitCount_0f7a4_36 : decode prog_20_method_49_code 36 = .ok (.bipush 8, 2) := by decide +kernel
theorem d_J6_bitCount_0f7a4_38 : decode prog_20_method_49_code 38 = .ok (.iushr, 1) := by decide +kernel
theorem d_J6_bitCount_0f7a4_39 : decode prog_20_method_49_code 39 = .ok (.iadd, 1) := by decide +kernel
theorem d_J6_bitCount_0f7a4_40 : decode prog_20_method_49_code 40 = .ok (.istore_n 0, 1) := by decide +kernel
theorem d_J6_bitCount_0f7a4_41 : decode prog_20_method_49_code 41 = .ok (.iload_n 0, 1) := by decide +kernel
theorem d_J6_bitCount_0f7a4_42 : decode prog_20_method_49_code 42 = .ok (.iload_n 0, 1) := by decide +kernel
theorem d_J6_bitCount_0f7a4_43 : decode prog_20_method_49_code 43 = .ok (.bipush 16, 2) := by decide +kernel
theorem d_J6_bitCount_0f7a4_45 : decode prog_20_method_49_code 45 = .ok (.iushr, 1) := by decide +kernel
theorem d_J6_bitCount_0f7a4_46 : decode prog_20_method_49_code 46 = .ok (.iadd, 1) := by decide +kernel
theorem d_J6_bitCount_0f7a4_47 : decode prog_20_method_49_code 47 = .ok (.istore_n 0, 1) := by decide +kernel
theorem d_J6_bitCount_0f7a4_48 : decode prog_20_method_49_code 48 = .ok (.iload_n 0, 1) := by decide +kernel
theorem d_J6_bitCount_0f7a4_49 : decode prog_20_method_49_code 49 = .ok (.bipush 63, 2) := by decide +kernel
theorem d_J6_bitCount_0f7a4_51 : decode prog_20_method_49_code 51 = .ok (.iand, 1) := by decide +kernel
theorem d_J6_bitCount_0f7a4_52 : decode prog_20_method_49_code 52 = .ok (.ireturn, 1) := by decide +kernel
theorem d_X4_freshMarks_0 : decode prog_6_method_5_code 0 = .ok (.aload_n 0, 1) := by decide +kernel
theorem d_X4_freshMarks_1 : decode prog_6_method_5_code 1 = .ok (.getfield 25, 3) := by decide +kernel
theorem k_634 : Cond.constant "PinchedBill$Reckoner" 100 2000000000 ∈ gd_tbl := gd_in 634 (by decide +kernel) (by decide +kernel)
theorem d_X4_freshMarks_4 : decode prog_6_method_5_code 4 = .ok (.ldc 100, 2) := by decide +kernel
theorem d_X4_freshMarks_6 : decode prog_6_method_5_code 6 = .ok (.if_icmp .le 16, 3) := by decide +kernel
theorem d_X4_freshMarks_22 : decode prog_6_method_5_code 22 = .ok (.aload_n 0, 1) := by decide +kernel
theorem d_X4_freshMarks_23 : decode prog_6_method_5_code 23 = .ok (.getfield 25, 3) := by decide +kernel
theorem d_X4_freshMarks_26 : decode prog_6_method_5_code 26 = .ok (.istore_n 1, 1) := by decide +kernel
theorem d_X4_freshMarks_27 : decode prog_6_method_5_code 27 = .ok (.aload_n 0, 1) := by decide +kernel
theorem d_X4_freshMarks_28 : decode prog_6_method_5_code 28 = .ok (.dup, 1) := by decide +kernel
theorem d_X4_freshMarks_29 : decode prog_6_method_5_code 29 = .ok (.getfield 25, 3) := by decide +kernel
theorem d_X4_freshMarks_32 : decode prog_6_method_5_code 32 = .ok (.sipush 9001, 3) := by decide +kernel
theorem d_X4_freshMarks_35 : decode prog_6_method_5_code 35 = .ok (.iadd, 1) := by decide +kernel
theorem d_X4_freshMarks_36 : decode prog_6_method_5_code 36 = .ok (.putfield 25, 3) := by decide +kernel
theorem d_X4_freshMarks_39 : decode prog_6_method_5_code 39 = .ok (.iload_n 1, 1) := by decide +kernel
theorem d_X4_freshMarks_40 : decode prog_6_method_5_code 40 = .ok (.ireturn, 1) := by decide +kernel
theorem d_X4_billIn_0 : decode prog_6_method_3_code 0 = .ok (.aload_n 0, 1) := by decide +kernel
theorem d_X4_billIn_1 : decode prog_6_method_3_code 1 = .ok (.getfield 12, 3) := by decide +kernel
theorem d_X4_billIn_4 : decode prog_6_method_3_code 4 = .ok (.iload_n 1, 1) := by decide +kernel
theorem k_575 : Cond.code ⟨"PinchedBill$Walk", "start", "(I)V"⟩ prog_9_method_2_code 2 none ∈ gd_tbl := gd_in 575 (by decide +kernel) (by decide +kernel)
theorem k_638 : Cond.methodLink "PinchedBill$Reckoner" 69 ⟨"PinchedBill$Walk", "start", "(I)V"⟩ ∈ gd_tbl := gd_in 638 (by decide +kernel) (by decide +kernel)
theorem k_573 : Cond.instanceMethod ⟨"PinchedBill$Walk", "start", "(I)V"⟩ ∈ gd_tbl := gd_in 573 (by decide +kernel) (by decide +kernel)
theorem k_574 : Cond.selects "PinchedBill$Walk" ⟨"PinchedBill$Walk", "start", "(I)V"⟩ ⟨"PinchedBill$Walk", "start", "(I)V"⟩ ∈ gd_tbl := gd_in 574 (by decide +kernel) (by decide +kernel)
theorem kV_PinchedBill_Reckoner_69 : kV "PinchedBill$Reckoner" 69 ⟨"PinchedBill$Walk", "start", "(I)V"⟩ prog_9_method_2_code 2 none 1 := ⟨k_638, k_573, k_574, k_121, k_575, by decide, by decide, by decide +kernel⟩
theorem d_X4_billIn_5 : decode prog_6_method_3_code 5 = .ok (.invokevirtual 69, 3) := by decide +kernel
theorem d_X4_billIn_8 : decode prog_6_method_3_code 8 = .ok (.aload_n 0, 1) := by decide +kernel
theorem d_X4_billIn_9 : decode prog_6_method_3_code 9 = .ok (.getfield 62, 3) := by decide +kernel
theorem d_X4_billIn_12 : decode prog_6_method_3_code 12 = .ok (.aload_n 0, 1) := by decide +kernel
theorem d_X4_billIn_13 : decode prog_6_method_3_code 13 = .ok (.getfield 12, 3) := by decide +kernel
theorem d_X4_billIn_16 : decode prog_6_method_3_code 16 = .ok (.iload_n 2, 1) := by decide +kernel
theorem d_X4_billIn_17 : decode prog_6_method_3_code 17 = .ok (.iload_n 3, 1) := by decide +kernel
theorem k_1050 : Cond.code ⟨"PinchedBill$Laws", "stepOften", "(LPinchedBill$Walk;II)I"⟩ prog_4_method_13_code 5 (some .int) ∈ gd_tbl := gd_in 1050 (by decide +kernel) (by decide +kernel)
theorem k_1158 : Cond.methodLink "PinchedBill$Reckoner" 73 ⟨"PinchedBill$Laws", "stepOften", "(LPinchedBill$Walk;II)I"⟩ ∈ gd_tbl := gd_in 1158 (by decide +kernel) (by decide +kernel)
theorem k_1048 : Cond.instanceMethod ⟨"PinchedBill$Laws", "stepOften", "(LPinchedBill$Walk;II)I"⟩ ∈ gd_tbl := gd_in 1048 (by decide +kernel) (by decide +kernel)
theorem k_1049 : Cond.selects "PinchedBill$Laws" ⟨"PinchedBill$Laws", "stepOften", "(LPinchedBill$Walk;II)I"⟩ ⟨"PinchedBill$Laws", "stepOften", "(LPinchedBill$Walk;II)I"⟩ ∈ gd_tbl := gd_in 1049 (by decide +kernel) (by decide +kernel)
theorem kV_PinchedBill_Reckoner_73 : kV "PinchedBill$Reckoner" 73 ⟨"PinchedBill$Laws", "stepOften", "(LPinchedBill$Walk;II)I"⟩ prog_4_method_13_code 5 (some .int) 3 := ⟨k_1158, k_1048, k_1049, k_137, k_1050, by decide, by decide, by decide +kernel⟩
theorem d_X4_billIn_18 : decode prog_6_method_3_code 18 = .ok (.invokevirtual 73, 3) := by decide +kernel
theorem d_X4_billIn_21 : decode prog_6_method_3_code 21 = .ok (.pop, 1) := by decide +kernel
theorem d_X4_billIn_22 : decode prog_6_method_3_code 22 = .ok (.aload_n 0, 1) := by decide +kernel
theorem d_X4_billIn_23 : decode prog_6_method_3_code 23 = .ok (.getfield 12, 3) := by decide +kernel
theorem k_281 : Cond.fieldLink "PinchedBill$Reckoner" 77 "PinchedBill$Walk" "bill" "I" ∈ gd_tbl := gd_in 281 (by decide +kernel) (by decide +kernel)
theorem d_X4_billIn_26 : decode prog_6_method_3_code 26 = .ok (.getfield 77, 3) := by decide +kernel
theorem d_X4_billIn_29 : decode prog_6_method_3_code 29 = .ok (.ireturn, 1) := by decide +kernel
theorem d_X4_trace_0 : decode prog_6_method_4_code 0 = .ok (.aload_n 0, 1) := by decide +kernel
theorem k_633 : Cond.code ⟨"PinchedBill$Reckoner", "freshMarks", "()I"⟩ prog_6_method_5_code 2 (some .int) ∈ gd_tbl := gd_in 633 (by decide +kernel) (by decide +kernel)
theorem k_630 : Cond.methodLink "PinchedBill$Reckoner" 80 ⟨"PinchedBill$Reckoner", "freshMarks", "()I"⟩ ∈ gd_tbl := gd_in 630 (by decide +kernel) (by decide +kernel)
theorem k_632 : Cond.instanceMethod ⟨"PinchedBill$Reckoner", "freshMarks", "()I"⟩ ∈ gd_tbl := gd_in 632 (by decide +kernel) (by decide +kernel)
theorem k_11 : Cond.selects "PinchedBill$Reckoner" ⟨"PinchedBill$Reckoner", "freshMarks", "()I"⟩ ⟨"PinchedBill$Reckoner", "freshMarks", "()I"⟩ ∈ gd_tbl := gd_in 11 (by decide +kernel) (by decide +kernel)
theorem k_136 : Cond.initialized "PinchedBill$Reckoner" ∈ gd_tbl := gd_in 136 (by decide +kernel) (by decide +kernel)
theorem kV_PinchedBill_Reckoner_80 : kV "PinchedBill$Reckoner" 80 ⟨"PinchedBill$Reckoner", "freshMarks", "()I"⟩ prog_6_method_5_code 2 (some .int) 0 := ⟨k_630, k_632, k_11, k_136, k_633, by decide, by decide, by decide +kernel⟩
theorem d_X4_trace_1 : decode prog_6_method_4_code 1 = .ok (.invokevirtual 80, 3) := by decide +kernel
theorem d_X4_trace_4 : decode prog_6_method_4_code 4 = .ok (.istore_n 3, 1) := by decide +kernel
theorem d_X4_trace_5 : decode prog_6_method_4_code 5 = .ok (.aload_n 0, 1) := by decide +kernel
theorem d_X4_trace_6 : decode prog_6_method_4_code 6 = .ok (.getfield 12, 3) := by decide +kernel
theorem d_X4_trace_9 : decode prog_6_method_4_code 9 = .ok (.iload_n 1, 1) := by decide +kernel
theorem d_X4_trace_10 : decode prog_6_method_4_code 10 = .ok (.invokevirtual 69, 3) := by decide +kernel
theorem d_X4_trace_13 : decode prog_6_method_4_code 13 = .ok (.iconst 0, 1) := by decide +kernel
theorem d_X4_trace_14 : decode prog_6_method_4_code 14 = .ok (.istore 4, 2) := by decide +kernel
theorem d_X4_trace_16 : decode prog_6_method_4_code 16 = .ok (.iload 4, 2) := by decide +kernel
theorem d_X4_trace_18 : decode prog_6_method_4_code 18 = .ok (.sipush 9000, 3) := by decide +kernel
theorem d_X4_trace_21 : decode prog_6_method_4_code 21 = .ok (.if_icmp .gt 120, 3) := by decide +kernel
theorem d_X4_trace_24 : decode prog_6_method_4_code 24 = .ok (.aload_n 0, 1) := by decide +kernel
theorem d_X4_trace_25 : decode prog_6_method_4_code 25 = .ok (.getfield 12, 3) := by decide +kernel
theorem d_X4_trace_28 : decode prog_6_method_4_code 28 = .ok (.getfield 77, 3) := by decide +kernel
theorem d_X4_trace_31 : decode prog_6_method_4_code 31 = .ok (.bipush 9, 2) := by decide +kernel
theorem d_X4_trace_33 : decode prog_6_method_4_code 33 = .ok (.imul, 1) := by decide +kernel
theorem d_X4_trace_34 : decode prog_6_method_4_code 34 = .ok (.aload_n 0, 1) := by decide +kernel
theorem d_X4_trace_35 : decode prog_6_method_4_code 35 = .ok (.getfield 12, 3) := by decide +kernel
theorem k_286 : Cond.fieldLink "PinchedBill$Reckoner" 84 "PinchedBill$Walk" "spoke" "I" ∈ gd_tbl := gd_in 286 (by decide +kernel) (by decide +kernel)
theorem d_X4_trace_38 : decode prog_6_method_4_code 38 = .ok (.getfield 84, 3) := by decide +kernel
theorem d_X4_trace_41 : decode prog_6_method_4_code 41 = .ok (.iadd, 1) := by decide +kernel
theorem d_X4_trace_42 : decode prog_6_method_4_code 42 = .ok (.iconst 1, 1) := by decide +kernel
theorem d_X4_trace_43 : decode prog_6_method_4_code 43 = .ok (.iadd, 1) := by decide +kernel
theorem d_X4_trace_44 : decode prog_6_method_4_code 44 = .ok (.istore 5, 2) := by decide +kernel
theorem d_X4_trace_46 : decode prog_6_method_4_code 46 = .ok (.iload 5, 2) := by decide +kernel
theorem d_X4_trace_48 : decode prog_6_method_4_code 48 = .ok (.ifCond .lt 11, 3) := by decide +kernel
theorem d_X4_trace_51 : decode prog_6_method_4_code 51 = .ok (.iload 5, 2) := by decide +kernel
theorem d_X4_trace_53 : decode prog_6_method_4_code 53 = .ok (.sipush 9000, 3) := by decide +kernel
theorem d_X4_trace_56 : decode prog_6_method_4_code 56 = .ok (.if_icmp .lt 4, 3) := by decide +kernel
theorem d_X4_trace_60 : decode prog_6_method_4_code 60 = .ok (.aload_n 0, 1) := by decide +kernel
theorem d_X4_trace_61 : decode prog_6_method_4_code 61 = .ok (.iload 4, 2) := by decide +kernel
theorem k_412 : Cond.fieldLink "PinchedBill$Reckoner" 87 "PinchedBill$Reckoner" "length" "I" ∈ gd_tbl := gd_in 412 (by decide +kernel) (by decide +kernel)
theorem d_X4_trace_63 : decode prog_6_method_4_code 63 = .ok (.putfield 87, 3) := by decide +kernel
theorem d_X4_trace_66 : decode prog_6_method_4_code 66 = .ok (.aload_n 0, 1) := by decide +kernel
theorem d_X4_trace_67 : decode prog_6_method_4_code 67 = .ok (.getfield 21, 3) := by decide +kernel
theorem d_X4_trace_70 : decode prog_6_method_4_code 70 = .ok (.iload 5, 2) := by decide +kernel
theorem d_X4_trace_72 : decode prog_6_method_4_code 72 = .ok (.iaload, 1) := by decide +kernel
theorem d_X4_trace_73 : decode prog_6_method_4_code 73 = .ok (.iload_n 3, 1) := by decide +kernel
theorem d_X4_trace_74 : decode prog_6_method_4_code 74 = .ok (.if_icmp .lt 22, 3) := by decide +kernel
theorem d_X4_trace_96 : decode prog_6_method_4_code 96 = .ok (.aload_n 0, 1) := by decide +kernel
theorem d_X4_trace_97 : decode prog_6_method_4_code 97 = .ok (.getfield 21, 3) := by decide +kernel
theorem d_X4_trace_100 : decode prog_6_method_4_code 100 = .ok (.iload 5, 2) := by decide +kernel
theorem d_X4_trace_102 : decode prog_6_method_4_code 102 = .ok (.iload_n 3, 1) := by decide +kernel
theorem d_X4_trace_103 : decode prog_6_method_4_code 103 = .ok (.iload 4, 2) := by decide +kernel
theorem d_X4_trace_105 : decode prog_6_method_4_code 105 = .ok (.iadd, 1) := by decide +kernel
theorem d_X4_trace_106 : decode prog_6_method_4_code 106 = .ok (.iastore, 1) := by decide +kernel
theorem d_X4_trace_107 : decode prog_6_method_4_code 107 = .ok (.aload_n 0, 1) := by decide +kernel
theorem d_X4_trace_108 : decode prog_6_method_4_code 108 = .ok (.getfield 62, 3) := by decide +kernel
theorem d_X4_trace_111 : decode prog_6_method_4_code 111 = .ok (.aload_n 0, 1) := by decide +kernel
theorem d_X4_trace_112 : decode prog_6_method_4_code 112 = .ok (.getfield 12, 3) := by decide +kernel
theorem d_X4_trace_115 : decode prog_6_method_4_code 115 = .ok (.iload_n 2, 1) := by decide +kernel
theorem k_639 : Cond.methodLink "PinchedBill$Reckoner" 96 ⟨"PinchedBill$Laws", "step", "(LPinchedBill$Walk;I)I"⟩ ∈ gd_tbl := gd_in 639 (by decide +kernel) (by decide +kernel)
theorem kV_PinchedBill_Reckoner_96 : kV "PinchedBill$Reckoner" 96 ⟨"PinchedBill$Laws", "step", "(LPinchedBill$Walk;I)I"⟩ prog_4_method_12_code 4 (some .int) 2 := ⟨k_639, k_546, k_547, k_137, k_548, by decide, by decide, by decide +kernel⟩
theorem d_X4_trace_116 : decode prog_6_method_4_code 116 = .ok (.invokevirtual 96, 3) := by decide +kernel
theorem d_X4_trace_119 : decode prog_6_method_4_code 119 = .ok (.iconst (-1), 1) := by decide +kernel
theorem d_X4_trace_120 : decode prog_6_method_4_code 120 = .ok (.if_icmp .ne 15, 3) := by decide +kernel
theorem d_X4_trace_123 : decode prog_6_method_4_code 123 = .ok (.aload_n 0, 1) := by decide +kernel
theorem d_X4_trace_124 : decode prog_6_method_4_code 124 = .ok (.aload_n 0, 1) := by decide +kernel
theorem d_X4_trace_125 : decode prog_6_method_4_code 125 = .ok (.getfield 12, 3) := by decide +kernel
theorem d_X4_trace_128 : decode prog_6_method_4_code 128 = .ok (.getfield 77, 3) := by decide +kernel
theorem k_410 : Cond.fieldLink "PinchedBill$Reckoner" 93 "PinchedBill$Reckoner" "end" "I" ∈ gd_tbl := gd_in 410 (by decide +kernel) (by decide +kernel)
theorem d_X4_trace_131 : decode prog_6_method_4_code 131 = .ok (.putfield 93, 3) := by decide +kernel
theorem d_X4_trace_134 : decode prog_6_method_4_code 134 = .ok (.return_, 1) := by decide +kernel
theorem d_X4_settleAll_0 : decode prog_6_method_6_code 0 = .ok (.aload_n 0, 1) := by decide +kernel
theorem d_X4_settleAll_1 : decode prog_6_method_6_code 1 = .ok (.getfield 35, 3) := by decide +kernel
theorem d_X4_settleAll_4 : decode prog_6_method_6_code 4 = .ok (.iload_n 1, 1) := by decide +kernel
theorem d_X4_settleAll_5 : decode prog_6_method_6_code 5 = .ok (.if_icmp .ne 4, 3) := by decide +kernel
theorem d_X4_settleAll_9 : decode prog_6_method_6_code 9 = .ok (.iconst 0, 1) := by decide +kernel
theorem d_X4_settleAll_10 : decode prog_6_method_6_code 10 = .ok (.istore_n 2, 1) := by decide +kernel
theorem d_X4_settleAll_11 : decode prog_6_method_6_code 11 = .ok (.iload_n 2, 1) := by decide +kernel
theorem d_X4_settleAll_12 : decode prog_6_method_6_code 12 = .ok (.aload_n 0, 1) := by decide +kernel
theorem d_X4_settleAll_13 : decode prog_6_method_6_code 13 = .ok (.getfield 53, 3) := by decide +kernel
theorem k_600 : Cond.code ⟨"PinchedBill$House", "bills", "()I"⟩ prog_2_method_5_code 1 (some .int) ∈ gd_tbl := gd_in 600 (by decide +kernel) (by decide +kernel)
theorem k_597 : Cond.methodLink "PinchedBill$Reckoner" 107 ⟨"PinchedBill$House", "bills", "()I"⟩ ∈ gd_tbl := gd_in 597 (by decide +kernel) (by decide +kernel)
theorem k_598 : Cond.instanceMethod ⟨"PinchedBill$House", "bills", "()I"⟩ ∈ gd_tbl := gd_in 598 (by decide +kernel) (by decide +kernel)
theorem k_599 : Cond.selects "PinchedBill$House" ⟨"PinchedBill$House", "bills", "()I"⟩ ⟨"PinchedBill$House", "bills", "()I"⟩ ∈ gd_tbl := gd_in 599 (by decide +kernel) (by decide +kernel)
theorem kV_PinchedBill_Reckoner_107 : kV "PinchedBill$Reckoner" 107 ⟨"PinchedBill$House", "bills", "()I"⟩ prog_2_method_5_code 1 (some .int) 0 := ⟨k_597, k_598, k_599, k_119, k_600, by decide, by decide, by decide +kernel⟩
theorem d_X4_settleAll_16 : decode prog_6_method_6_code 16 = .ok (.invokevirtual 107, 3) := by decide +kernel
theorem d_X4_settleAll_19 : decode prog_6_method_6_code 19 = .ok (.if_icmp .ge 44, 3) := by decide +kernel
theorem d_X4_settleAll_63 : decode prog_6_method_6_code 63 = .ok (.aload_n 0, 1) := by decide +kernel
theorem d_X4_settleAll_64 : decode prog_6_method_6_code 64 = .ok (.iload_n 1, 1) := by decide +kernel
theorem d_X4_settleAll_65 : decode prog_6_method_6_code 65 = .ok (.putfield 35, 3) := by decide +kernel
theorem d_X4_settleAll_68 : decode prog_6_method_6_code 68 = .ok (.return_, 1) := by decide +kernel
theorem d_X4_settleAll_22 : decode prog_6_method_6_code 22 = .ok (.aload_n 0, 1) := by decide +kernel
theorem d_X4_settleAll_23 : decode prog_6_method_6_code 23 = .ok (.getfield 53, 3) := by decide +kernel
theorem d_X4_settleAll_26 : decode prog_6_method_6_code 26 = .ok (.iload_n 2, 1) := by decide +kernel
theorem k_604 : Cond.code ⟨"PinchedBill$House", "billAt", "(I)I"⟩ prog_2_method_6_code 2 (some .int) ∈ gd_tbl := gd_in 604 (by decide +kernel) (by decide +kernel)
theorem k_601 : Cond.methodLink "PinchedBill$Reckoner" 112 ⟨"PinchedBill$House", "billAt", "(I)I"⟩ ∈ gd_tbl := gd_in 601 (by decide +kernel) (by decide +kernel)
theorem k_602 : Cond.instanceMethod ⟨"PinchedBill$House", "billAt", "(I)I"⟩ ∈ gd_tbl := gd_in 602 (by decide +kernel) (by decide +kernel)
theorem k_603 : Cond.selects "PinchedBill$House" ⟨"PinchedBill$House", "billAt", "(I)I"⟩ ⟨"PinchedBill$House", "billAt", "(I)I"⟩ ∈ gd_tbl := gd_in 603 (by decide +kernel) (by decide +kernel)
theorem kV_PinchedBill_Reckoner_112 : kV "PinchedBill$Reckoner" 112 ⟨"PinchedBill$House", "billAt", "(I)I"⟩ prog_2_method_6_code 2 (some .int) 1 := ⟨k_601, k_602, k_603, k_119, k_604, by decide, by decide, by decide +kernel⟩
theorem d_X4_settleAll_27 : decode prog_6_method_6_code 27 = .ok (.invokevirtual 112, 3) := by decide +kernel
theorem d_X4_settleAll_30 : decode prog_6_method_6_code 30 = .ok (.istore_n 3, 1) := by decide +kernel
theorem d_X4_settleAll_31 : decode prog_6_method_6_code 31 = .ok (.aload_n 0, 1) := by decide +kernel
theorem d_X4_settleAll_32 : decode prog_6_method_6_code 32 = .ok (.iload_n 3, 1) := by decide +kernel
theorem d_X4_settleAll_33 : decode prog_6_method_6_code 33 = .ok (.iload_n 1, 1) := by decide +kernel
theorem k_629 : Cond.code ⟨"PinchedBill$Reckoner", "trace", "(II)V"⟩ prog_6_method_4_code 6 none ∈ gd_tbl := gd_in 629 (by decide +kernel) (by decide +kernel)
theorem k_626 : Cond.methodLink "PinchedBill$Reckoner" 116 ⟨"PinchedBill$Reckoner", "trace", "(II)V"⟩ ∈ gd_tbl := gd_in 626 (by decide +kernel) (by decide +kernel)
theorem k_627 : Cond.instanceMethod ⟨"PinchedBill$Reckoner", "trace", "(II)V"⟩ ∈ gd_tbl := gd_in 627 (by decide +kernel) (by decide +kernel)
theorem k_628 : Cond.selects "PinchedBill$Reckoner" ⟨"PinchedBill$Reckoner", "trace", "(II)V"⟩ ⟨"PinchedBill$Reckoner", "trace", "(II)V"⟩ ∈ gd_tbl := gd_in 628 (by decide +kernel) (by decide +kernel)
theorem kV_PinchedBill_Reckoner_116 : kV "PinchedBill$Reckoner" 116 ⟨"PinchedBill$Reckoner", "trace", "(II)V"⟩ prog_6_method_4_code 6 none 2 := ⟨k_626, k_627, k_628, k_136, k_629, by decide, by decide, by decide +kernel⟩
theorem d_X4_settleAll_34 : decode prog_6_method_6_code 34 = .ok (.invokevirtual 116, 3) := by decide +kernel
theorem d_X4_settleAll_37 : decode prog_6_method_6_code 37 = .ok (.aload_n 0, 1) := by decide +kernel
theorem d_X4_settleAll_38 : decode prog_6_method_6_code 38 = .ok (.getfield 29, 3) := by decide +kernel
theorem d_X4_settleAll_41 : decode prog_6_method_6_code 41 = .ok (.iload_n 2, 1) := by decide +kernel
theorem d_X4_settleAll_42 : decode prog_6_method_6_code 42 = .ok (.aload_n 0, 1) := by decide +kernel
theorem d_X4_settleAll_43 : decode prog_6_method_6_code 43 = .ok (.getfield 93, 3) := by decide +kernel
theorem d_X4_settleAll_46 : decode prog_6_method_6_code 46 = .ok (.iastore, 1) := by decide +kernel
theorem d_X4_settleAll_47 : decode prog_6_method_6_code 47 = .ok (.aload_n 0, 1) := by decide +kernel
theorem d_X4_settleAll_48 : decode prog_6_method_6_code 48 = .ok (.getfield 32, 3) := by decide +kernel
theorem d_X4_settleAll_51 : decode prog_6_method_6_code 51 = .ok (.iload_n 2, 1) := by decide +kernel
theorem d_X4_settleAll_52 : decode prog_6_method_6_code 52 = .ok (.aload_n 0, 1) := by decide +kernel
theorem d_X4_settleAll_53 : decode prog_6_method_6_code 53 = .ok (.getfield 87, 3) := by decide +kernel
theorem d_X4_settleAll_56 : decode prog_6_method_6_code 56 = .ok (.iastore, 1) := by decide +kernel
theorem d_X4_settleAll_57 : decode prog_6_method_6_code 57 = .ok (.iinc 2 1, 3) := by decide +kernel
theorem d_X4_settleAll_60 : decode prog_6_method_6_code 60 = .ok (.goto (-49), 3) := by decide +kernel
set_option maxHeartbeats 4000000 in
set_option maxRecDepth 100000 in
theorem c_fillI (l : Launch) (D : va_G) (ty : Nat → ClassId) (h0 : Nat) (n : Nat) (f : Nat → Int32) (x : Int32) (hn : n < 100000) : CC l D ty ⟨"java/util/Arrays", "fill", "([II)V"⟩ prog_30_method_103_code 4 none 0 0 0 0 [.ref h0, .int x] [(h0, eI (ty 0) n f)] (QV D ty (fun (w : va_W) => ∃ (g9 : Nat → Int32), (∀ j, j < n → g9 j = x) ∧ w = [(h0, eI (ty 0) n g9)])) := by
  refine CC_of (by decide) ?_
  intro p e s m below meth c A C hP hD hS
  obtain ⟨⟨hx, hb, hml, hown, hts⟩, hr, hlocks, hnm, hK, hE, hA, hZ⟩ := id C
  refine startW [.ref h0, .int x] 4 (nle rfl) (lv := [(0, .ref h0), (1, .int x)]) rfl (fun ls hl => ?_)
  refine lv_iconst (v := 0) hx hb d_J7_fill_53178_0 (by decide) ?_
  refine lv_istore_n (lv' := [(2, .int 0), (0, .ref h0), (1, .int x)]) hx hb d_J7_fill_53178_1 rfl hl (by decide) rfl (fun ls hl => ?_)
  refine lv_aload_n hx hb d_J7_fill_53178_2 rfl (lv_at hl 1 rfl) ?_
  refine r_alen (v := (nI n)) C hP 0 0 rfl rfl rfl d_J7_fill_53178_3 ?_
  refine lv_istore_n (lv' := [(3, .int (nI n)), (2, .int 0), (0, .ref h0), (1, .int x)]) hx hb d_J7_fill_53178_4 rfl hl (by decide) rfl (fun ls hl => ?_)
  refine loopW2 (fun (i : Nat) (g : Nat → Int32) (H : Heap) (locs : List Loc) (ls : Array Slot) => (i ≤ n) ∧ (∀ j, j < i → g j = x) ∧ va_P D vwCl [(h0, eI (ty 0) n g)] H ∧ va_D A [(h0, eI (ty 0) n g)] ∧ va_S A s.heap H locs ∧ lv_has ls 4 [(3, .int (nI n)), (2, .int (nI i)), (0, .ref h0), (1, .int x)]) (fun (i : Nat) (g : Nat → Int32) => n - i) ?_ 0 f ⟨(by omega), (fun j h => absurd h (by omega)), hP, hD, hS, lv_sub hl [0, 1, 2, 3] rfl⟩
  intro i g H locs ls hI ih_1
  obtain ⟨hi, hg, hP, hD, hS, hl⟩ := hI
  refine lv_iload_n hx hb d_J7_fill_53178_5 rfl (lv_at hl 1 rfl) ?_
  refine lv_iload_n hx hb d_J7_fill_53178_6 rfl (lv_at hl 0 rfl) ?_
  refine lv_icmp_ge (tgt := 20) hx hb d_J7_fill_53178_7 (by decide) (fun hc_2 => ?_) (fun hc_2 => ?_)
  · have hc_2 := un_le n i rfl rfl (by omega) (by omega) hc_2
    exact ret_V (w := [(h0, eI (ty 0) n g)]) C hP hD hS [0] rfl rfl ⟨g, (fun j h => hg j (by omega)), rfl⟩ (by decide) (by decide) d_J7_fill_53178_20
  · have hc_2 := un_nle n i rfl rfl (by omega) (by omega) hc_2
    refine lv_aload_n hx hb d_J7_fill_53178_10 rfl (lv_at hl 2 rfl) ?_
    refine lv_iload_n hx hb d_J7_fill_53178_11 rfl (lv_at hl 1 rfl) ?_
    refine lv_iload_n hx hb d_J7_fill_53178_12 rfl (lv_at hl 3 rfl) ?_
    refine r_iast (w := [(h0, eI (ty 0) n (upd g i x))]) C hP hD hS 0 rfl i rfl (by omega) (by omega) rfl d_J7_fill_53178_13 (fun H locs hP hD hS => ?_)
    refine lv_iinc (v := (nI (i + 1))) (lv' := [(2, .int (nI (i + 1))), (3, .int (nI n)), (0, .ref h0), (1, .int x)]) (k := 1) hx hb d_J7_fill_53178_14 hl rfl (a_inc i 1 (i + 1) rfl rfl) (by decide) rfl (fun ls hl => ?_)
    refine lv_goto (tgt := 5) hx hb d_J7_fill_53178_17 (by decide) ?_
    exact ih_1 (i + 1) (upd g i x) _ _ _ (by omega) ⟨(by omega), (up_I hg rfl), sub_P hP (is := [0]) rfl, hD.sub [0] (by decide) rfl, hS, lv_sub hl [1, 0, 2, 3] rfl⟩
set_option maxHeartbeats 4000000 in
set_option maxRecDepth 100000 in
theorem c_fillJ (l : Launch) (D : va_G) (ty : Nat → ClassId) (h0 : Nat) (n : Nat) (f : Nat → Int64) (x : Int64) (hn : n < 100000) : CC l D ty ⟨"java/util/Arrays", "fill", "([JJ)V"⟩ prog_30_method_101_code 5 none 0 0 0 0 [.ref h0, .long x] [(h0, eJ (ty 3) n f)] (QV D ty (fun (w : va_W) => ∃ (g9 : Nat → Int64), (∀ j, j < n → g9 j = x) ∧ w = [(h0, eJ (ty 3) n g9)])) := by
  refine CC_of (by decide) ?_
  intro p e s m below meth c A C hP hD hS
  obtain ⟨⟨hx, hb, hml, hown, hts⟩, hr, hlocks, hnm, hK, hE, hA, hZ⟩ := id C
  refine startW [.ref h0, .long x] 5 (nle rfl) (lv := [(0, .ref h0), (1, .long x)]) rfl (fun ls hl => ?_)
  refine lv_iconst (v := 0) hx hb d_J7_fill_d0a16_0 (by decide) ?_
  refine lv_istore_n (lv' := [(3, .int 0), (0, .ref h0), (1, .long x)]) hx hb d_J7_fill_d0a16_1 rfl hl (by decide) rfl (fun ls hl => ?_)
  refine lv_aload_n hx hb d_J7_fill_d0a16_2 rfl (lv_at hl 1 rfl) ?_
  refine r_alen (v := (nI n)) C hP 0 3 rfl rfl rfl d_J7_fill_d0a16_3 ?_
  refine lv_istore (lv' := [(4, .int (nI n)), (3, .int 0), (0, .ref h0), (1, .long x)]) hx hb d_J7_fill_d0a16_4 hl (by decide) rfl (fun ls hl => ?_)
  refine loopW2 (fun (i : Nat) (g : Nat → Int64) (H : Heap) (locs : List Loc) (ls : Array Slot) => (i ≤ n) ∧ (∀ j, j < i → g j = x) ∧ va_P D vwCl [(h0, eJ (ty 3) n g)] H ∧ va_D A [(h0, eJ (ty 3) n g)] ∧ va_S A s.heap H locs ∧ lv_has ls 5 [(4, .int (nI n)), (3, .int (nI i)), (0, .ref h0), (1, .long x)]) (fun (i : Nat) (g : Nat → Int64) => n - i) ?_ 0 f ⟨(by omega), (fun j h => absurd h (by omega)), hP, hD, hS, lv_sub hl [0, 1, 2, 3] rfl⟩
  intro i g H locs ls hI ih_1
  obtain ⟨hi, hg, hP, hD, hS, hl⟩ := hI
  refine lv_iload_n hx hb d_J7_fill_d0a16_6 rfl (lv_at hl 1 rfl) ?_
  refine lv_iload hx hb d_J7_fill_d0a16_7 (lv_at hl 0 rfl) ?_
  refine lv_icmp_ge (tgt := 22) hx hb d_J7_fill_d0a16_9 (by decide) (fun hc_2 => ?_) (fun hc_2 => ?_)
  · have hc_2 := un_le n i rfl rfl (by omega) (by omega) hc_2
    exact ret_V (w := [(h0, eJ (ty 3) n g)]) C hP hD hS [0] rfl rfl ⟨g, (fun j h => hg j (by omega)), rfl⟩ (by decide) (by decide) d_J7_fill_d0a16_22
  · have hc_2 := un_nle n i rfl rfl (by omega) (by omega) hc_2
    refine lv_aload_n hx hb d_J7_fill_d0a16_12 rfl (lv_at hl 2 rfl) ?_
    refine lv_iload_n hx hb d_J7_fill_d0a16_13 rfl (lv_at hl 1 rfl) ?_
    refine lv_lload_n hx hb d_J7_fill_d0a16_14 rfl (lv_at hl 3 rfl) ?_
    refine r_last (w := [(h0, eJ (ty 3) n (vp_updL g i x))]) C hP hD hS 0 rfl i rfl (by omega) (by omega) rfl d_J7_fill_d0a16_15 (fun H locs hP hD hS => ?_)
    refine lv_iinc (v := (nI (i + 1))) (lv' := [(3, .int (nI (i + 1))), (4, .int (nI n)), (0, .ref h0), (1, .long x)]) (k := 1) hx hb d_J7_fill_d0a16_16 hl rfl (a_inc i 1 (i + 1) rfl rfl) (by decide) rfl (fun ls hl => ?_)
    refine lv_goto (tgt := 6) hx hb d_J7_fill_d0a16_19 (by decide) ?_
    exact ih_1 (i + 1) (vp_updL g i x) _ _ _ (by omega) ⟨(by omega), (up_L hg rfl), sub_P hP (is := [0]) rfl, hD.sub [0] (by decide) rfl, hS, lv_sub hl [1, 0, 2, 3] rfl⟩
set_option maxHeartbeats 4000000 in
set_option maxRecDepth 100000 in
theorem c_bit0 (l : Launch) (D : va_G) (ty : Nat → ClassId) : CC l D ty ⟨"java/lang/Integer", "bitCount", "(I)I"⟩ prog_20_method_49_code 1 (some .int) 0 0 0 0 [.int 0] [] (QI D ty (fun (r : Int32) (w : va_W) => 0 = r ∧ w = [])) := by
  refine CC_of (by decide) ?_
  intro p e s m below meth c A C hP hD hS
  obtain ⟨⟨hx, hb, hml, hown, hts⟩, hr, hlocks, hnm, hK, hE, hA, hZ⟩ := id C
  refine startW [.int 0] 1 (nle rfl) (lv := [(0, .int 0)]) rfl (fun ls hl => ?_)
  refine lv_iload_n hx hb d_J6_bitCount_0f7a4_0 rfl (lv_at hl 0 rfl) ?_
  refine lv_iload_n hx hb d_J6_bitCount_0f7a4_1 rfl (lv_at hl 0 rfl) ?_
  refine lv_iconst (v := 1) hx hb d_J6_bitCount_0f7a4_2 (by decide) ?_
  refine lv_iushr (v := 0) hx hb d_J6_bitCount_0f7a4_3 (by decide) ?_
  refine lv_ldcw hx hb hown (hts _ k_513) d_J6_bitCount_0f7a4_4 ?_
  refine r_iand (z := 0) C d_J6_bitCount_0f7a4_7 (by decide) ?_
  refine r_isub (z := 0) C d_J6_bitCount_0f7a4_8 (by decide) ?_
  refine lv_istore_n (lv' := [(0, .int 0)]) hx hb d_J6_bitCount_0f7a4_9 rfl hl (by decide) rfl (fun ls hl => ?_)
  refine lv_iload_n hx hb d_J6_bitCount_0f7a4_10 rfl (lv_at hl 0 rfl) ?_
  refine lv_ldcw hx hb hown (hts _ k_514) d_J6_bitCount_0f7a4_11 ?_
  refine r_iand (z := 0) C d_J6_bitCount_0f7a4_14 (by decide) ?_
  refine lv_iload_n hx hb d_J6_bitCount_0f7a4_15 rfl (lv_at hl 0 rfl) ?_
  refine lv_iconst (v := 2) hx hb d_J6_bitCount_0f7a4_16 (by decide) ?_
  refine lv_iushr (v := 0) hx hb d_J6_bitCount_0f7a4_17 (by decide) ?_
  refine lv_ldcw hx hb hown (hts _ k_514) d_J6_bitCount_0f7a4_18 ?_
  refine r_iand (z := 0) C d_J6_bitCount_0f7a4_21 (by decide) ?_
  refine r_iadd (z := 0) C d_J6_bitCount_0f7a4_22 (by decide) ?_
  refine lv_istore_n (lv' := [(0, .int 0)]) hx hb d_J6_bitCount_0f7a4_23 rfl hl (by decide) rfl (fun ls hl => ?_)
  refine lv_iload_n hx hb d_J6_bitCount_0f7a4_24 rfl (lv_at hl 0 rfl) ?_
  refine lv_iload_n hx hb d_J6_bitCount_0f7a4_25 rfl (lv_at hl 0 rfl) ?_
  refine lv_iconst (v := 4) hx hb d_J6_bitCount_0f7a4_26 (by decide) ?_
  refine lv_iushr (v := 0) hx hb d_J6_bitCount_0f7a4_27 (by decide) ?_
  refine r_iadd (z := 0) C d_J6_bitCount_0f7a4_28 (by decide) ?_
  refine lv_ldcw hx hb hown (hts _ k_515) d_J6_bitCount_0f7a4_29 ?_
  refine r_iand (z := 0) C d_J6_bitCount_0f7a4_32 (by decide) ?_
  refine lv_istore_n (lv' := [(0, .int 0)]) hx hb d_J6_bitCount_0f7a4_33 rfl hl (by decide) rfl (fun ls hl => ?_)
  refine lv_iload_n hx hb d_J6_bitCount_0f7a4_34 rfl (lv_at hl 0 rfl) ?_
  refine lv_iload_n hx hb d_J6_bitCount_0f7a4_35 rfl (lv_at hl 0 rfl) ?_
  refine lv_bipush (v := 8) hx hb d_J6_bitCount_0f7a4_36 (by decide) ?_
  refine lv_iushr (v := 0) hx hb d_J6_bitCount_0f7a4_38 (by decide) ?_
  refine r_iadd (z := 0) C d_J6_bitCount_0f7a4_39 (by decide) ?_
  refine lv_istore_n (lv' := [(0, .int 0)]) hx hb d_J6_bitCount_0f7a4_40 rfl hl (by decide) rfl (fun ls hl => ?_)
  refine lv_iload_n hx hb d_J6_bitCount_0f7a4_41 rfl (lv_at hl 0 rfl) ?_
  refine lv_iload_n hx hb d_J6_bitCount_0f7a4_42 rfl (lv_at hl 0 rfl) ?_
  refine lv_bipush (v := 16) hx hb d_J6_bitCount_0f7a4_43 (by decide) ?_
  refine lv_iushr (v := 0) hx hb d_J6_bitCount_0f7a4_45 (by decide) ?_
  refine r_iadd (z := 0) C d_J6_bitCount_0f7a4_46 (by decide) ?_
  refine lv_istore_n (lv' := [(0, .int 0)]) hx hb d_J6_bitCount_0f7a4_47 rfl hl (by decide) rfl (fun ls hl => ?_)
  refine lv_iload_n hx hb d_J6_bitCount_0f7a4_48 rfl (lv_at hl 0 rfl) ?_
  refine lv_bipush (v := 63) hx hb d_J6_bitCount_0f7a4_49 (by decide) ?_
  refine r_iand (z := 0) C d_J6_bitCount_0f7a4_51 (by decide) ?_
  exact ret_I (w := []) C hP hD hS [] rfl rfl ⟨rfl, rfl⟩ (by decide) (by decide) d_J6_bitCount_0f7a4_52
set_option maxHeartbeats 4000000 in
set_option maxRecDepth 100000 in
theorem c_fresh (l : Launch) (D : va_G) (ty : Nat → ClassId) (h0 : Nat) (ho : Nat) (lw : Nat) (w1 : Nat) (w2 : Nat) (m1 : Nat) (m2 : Nat) (m3 : Nat) (m4 : Nat) (m5 : Nat) (m6 : Nat) (m7 : Nat) (e0 : Int32) (e1 : Int32) (e2 : Int32) (e3 : Int32) (e4 : Int32) (e5 : Int32) (cm : Nat) (hcm : cm < 1000000) : CC l D ty ⟨"PinchedBill$Reckoner", "freshMarks", "()I"⟩ prog_6_method_5_code 2 (some .int) 0 0 0 0 [.ref h0] [(h0, eO 4 [.ref lw, .ref w1, .ref w2, .int e0, .int e1, .int e2, .ref ho, .ref m1, .int (nI cm), .ref m2, .ref m3, .int e3, .ref m4, .int e4, .ref m5, .ref m6, .ref m7, .int e5])] (QI D ty (fun (r : Int32) (w : va_W) => (nI cm) = r ∧ w = [(h0, eO 4 [.ref lw, .ref w1, .ref w2, .int e0, .int e1, .int e2, .ref ho, .ref m1, .int (nI (cm + 9001)), .ref m2, .ref m3, .int e3, .ref m4, .int e4, .ref m5, .ref m6, .ref m7, .int e5])])) := by
  refine CC_of (by decide) ?_
  intro p e s m below meth c A C hP hD hS
  obtain ⟨⟨hx, hb, hml, hown, hts⟩, hr, hlocks, hnm, hK, hE, hA, hZ⟩ := id C
  refine startW [.ref h0] 2 (nle rfl) (lv := [(0, .ref h0)]) rfl (fun ls hl => ?_)
  refine lv_aload_n hx hb d_X4_freshMarks_0 rfl (lv_at hl 0 rfl) ?_
  refine r_get (v := .int (nI cm)) C hP 0 rfl rfl lay_X4 8 (by decide) k_418 rfl d_X4_freshMarks_1 ?_
  refine lv_ldc hx hb hown (hts _ k_634) d_X4_freshMarks_4 ?_
  refine b_icmp_leT C 22 d_X4_freshMarks_6 (by decide) (n_le cm 2000000000 rfl rfl (by omega) (by omega)) ?_
  refine lv_aload_n hx hb d_X4_freshMarks_22 rfl (lv_at hl 0 rfl) ?_
  refine r_get (v := .int (nI cm)) C hP 0 rfl rfl lay_X4 8 (by decide) k_418 rfl d_X4_freshMarks_23 ?_
  refine lv_istore_n (lv' := [(1, .int (nI cm)), (0, .ref h0)]) hx hb d_X4_freshMarks_26 rfl hl (by decide) rfl (fun ls hl => ?_)
  refine lv_aload_n hx hb d_X4_freshMarks_27 rfl (lv_at hl 1 rfl) ?_
  refine lv_dup hx hb d_X4_freshMarks_28 rfl ?_
  refine r_get (v := .int (nI cm)) C hP 0 rfl rfl lay_X4 8 (by decide) k_418 rfl d_X4_freshMarks_29 ?_
  refine lv_sipush (v := 9001) hx hb d_X4_freshMarks_32 (by decide) ?_
  refine r_iadd (z := (nI (cm + 9001))) C d_X4_freshMarks_35 (a_add cm 9001 (cm + 9001) rfl rfl (by omega)) ?_
  refine r_put (w := [(h0, eO 4 [.ref lw, .ref w1, .ref w2, .int e0, .int e1, .int e2, .ref ho, .ref m1, .int (nI (cm + 9001)), .ref m2, .ref m3, .int e3, .ref m4, .int e4, .ref m5, .ref m6, .ref m7, .int e5])]) C hP hD hS 0 rfl rfl lay_X4 tok_X4 nmo_X4 8 (by decide) k_418 rfl rfl rfl (nle rfl) rfl d_X4_freshMarks_36 (fun H locs hP hD hS => ?_)
  refine lv_iload_n hx hb d_X4_freshMarks_39 rfl (lv_at hl 0 rfl) ?_
  exact ret_I (w := [(h0, eO 4 [.ref lw, .ref w1, .ref w2, .int e0, .int e1, .int e2, .ref ho, .ref m1, .int (nI (cm + 9001)), .ref m2, .ref m3, .int e3, .ref m4, .int e4, .ref m5, .ref m6, .ref m7, .int e5])]) C hP hD hS [0] rfl rfl ⟨rfl, rfl⟩ (by decide) (by decide) d_X4_freshMarks_40
set_option maxHeartbeats 4000000 in
set_option maxRecDepth 100000 in
theorem c_billIn (l : Launch) (D : va_G) (ty : Nat → ClassId) (h0 : Nat) (ho : Nat) (lw : Nat) (l1 : Nat) (l2 : Nat) (l3 : Nat) (l4 : Nat) (w1 : Nat) (w2 : Nat) (m1 : Nat) (m2 : Nat) (m3 : Nat) (m4 : Nat) (m5 : Nat) (m6 : Nat) (m7 : Nat) (g1 : Nat) (g2 : Nat) (g3 : Nat) (e0 : Int32) (e1 : Int32) (e2 : Int32) (e3 : Int32) (e4 : Int32) (e5 : Int32) (cm : Nat) (wb : Int32) (wk : Int32) (f : Nat → Int32) (v : Nat → Int32) (b : Nat) (n : Int32) (hbd : b < 1000) (hf : B01 f) : CC l D ty ⟨"PinchedBill$Reckoner", "billIn", "(III)I"⟩ prog_6_method_3_code 4 (some .int) 5 114 0 0 [.ref h0, .int (nI b), .int n, .int 0] [(h0, eO 4 [.ref lw, .ref w1, .ref w2, .int e0, .int e1, .int e2, .ref ho, .ref m1, .int (nI cm), .ref m2, .ref m3, .int e3, .ref m4, .int e4, .ref m5, .ref m6, .ref m7, .int e5]), (lw, eO 2 [.ref ho, .ref l1, .ref l2, .ref l3, .ref l4]), (ho, eO 0 [.int 0, .int 1, .int 0, .int 0, .int 0, .int 0, .int 0, .int 0, .int 0, .int 0, .ref g1, .ref g2, .ref g3]), (l1, eI (ty 0) 1000 f), (l3, eI (ty 0) 8 v), (w1, eO 7 [.int wb, .int wk])] (QI D ty (fun (r : Int32) (w : va_W) => ∃ (f9 : Nat → Int32) (v9 : Nat → Int32), (B01 f9) ∧ (nI b) = r ∧ w = [(h0, eO 4 [.ref lw, .ref w1, .ref w2, .int e0, .int e1, .int e2, .ref ho, .ref m1, .int (nI cm), .ref m2, .ref m3, .int e3, .ref m4, .int e4, .ref m5, .ref m6, .ref m7, .int e5]), (lw, eO 2 [.ref ho, .ref l1, .ref l2, .ref l3, .ref l4]), (ho, eO 0 [.int 0, .int 1, .int 0, .int 0, .int 0, .int 0, .int 0, .int 0, .int 0, .int 0, .ref g1, .ref g2, .ref g3]), (l1, eI (ty 0) 1000 f9), (l3, eI (ty 0) 8 v9), (w1, eO 7 [.int (nI b), .int (-1)])])) := by
  refine CC_of (by decide) ?_
  intro p e s m below meth c A C hP hD hS
  obtain ⟨⟨hx, hb, hml, hown, hts⟩, hr, hlocks, hnm, hK, hE, hA, hZ⟩ := id C
  refine startW [.ref h0, .int (nI b), .int n, .int 0] 4 (nle rfl) (lv := [(0, .ref h0), (1, .int (nI b)), (2, .int n), (3, .int 0)]) rfl (fun ls hl => ?_)
  refine lv_aload_n hx hb d_X4_billIn_0 rfl (lv_at hl 0 rfl) ?_
  refine r_get (v := .ref w1) C hP 0 rfl rfl lay_X4 1 (by decide) k_406 rfl d_X4_billIn_1 ?_
  refine lv_iload_n hx hb d_X4_billIn_4 rfl (lv_at hl 1 rfl) ?_
  have ct_1 : Cut [(h0, eO 4 [.ref lw, .ref w1, .ref w2, .int e0, .int e1, .int e2, .ref ho, .ref m1, .int (nI cm), .ref m2, .ref m3, .int e3, .ref m4, .int e4, .ref m5, .ref m6, .ref m7, .int e5]), (lw, eO 2 [.ref ho, .ref l1, .ref l2, .ref l3, .ref l4]), (ho, eO 0 [.int 0, .int 1, .int 0, .int 0, .int 0, .int 0, .int 0, .int 0, .int 0, .int 0, .ref g1, .ref g2, .ref g3]), (l1, eI (ty 0) 1000 f), (l3, eI (ty 0) 8 v), (w1, eO 7 [.int wb, .int wk])] [(w1, eO 7 [.int wb, .int wk])] [(h0, eO 4 [.ref lw, .ref w1, .ref w2, .int e0, .int e1, .int e2, .ref ho, .ref m1, .int (nI cm), .ref m2, .ref m3, .int e3, .ref m4, .int e4, .ref m5, .ref m6, .ref m7, .int e5]), (lw, eO 2 [.ref ho, .ref l1, .ref l2, .ref l3, .ref l4]), (ho, eO 0 [.int 0, .int 1, .int 0, .int 0, .int 0, .int 0, .int 0, .int 0, .int 0, .int 0, .ref g1, .ref g2, .ref g3]), (l1, eI (ty 0) 1000 f), (l3, eI (ty 0) 8 v)] [5] [0, 1, 2, 3, 4] := ⟨rfl, rfl, rfl, rfl, by decide⟩
  refine cont_V C hP hD hS ct_1 (run_V (As := [.int (nI b)]) (rest := []) C hP hD hS ct_1 (c_start l D ty w1 wb wk (nI b)) kV_PinchedBill_Reckoner_69 5 rfl rfl rfl rfl hl.1 rfl (nle rfl) d_X4_billIn_5 ⟨by decide, by decide, by decide, by decide⟩) (fun w_4 H locs hw_2 hP hD hS => ?_)
  subst hw_2
  have hP : va_P D vwCl [(h0, eO 4 [.ref lw, .ref w1, .ref w2, .int e0, .int e1, .int e2, .ref ho, .ref m1, .int (nI cm), .ref m2, .ref m3, .int e3, .ref m4, .int e4, .ref m5, .ref m6, .ref m7, .int e5]), (lw, eO 2 [.ref ho, .ref l1, .ref l2, .ref l3, .ref l4]), (ho, eO 0 [.int 0, .int 1, .int 0, .int 0, .int 0, .int 0, .int 0, .int 0, .int 0, .int 0, .ref g1, .ref g2, .ref g3]), (l1, eI (ty 0) 1000 f), (l3, eI (ty 0) 8 v), (w1, eO 7 [.int (nI b), .int (-1)])] H := hP
  have hD : va_D A [(h0, eO 4 [.ref lw, .ref w1, .ref w2, .int e0, .int e1, .int e2, .ref ho, .ref m1, .int (nI cm), .ref m2, .ref m3, .int e3, .ref m4, .int e4, .ref m5, .ref m6, .ref m7, .int e5]), (lw, eO 2 [.ref ho, .ref l1, .ref l2, .ref l3, .ref l4]), (ho, eO 0 [.int 0, .int 1, .int 0, .int 0, .int 0, .int 0, .int 0, .int 0, .int 0, .int 0, .ref g1, .ref g2, .ref g3]), (l1, eI (ty 0) 1000 f), (l3, eI (ty 0) 8 v), (w1, eO 7 [.int (nI b), .int (-1)])] := hD
  refine lv_aload_n hx hb d_X4_billIn_8 rfl (lv_at hl 0 rfl) ?_
  refine r_get (v := .ref lw) C hP 0 rfl rfl lay_X4 0 (by decide) k_404 rfl d_X4_billIn_9 ?_
  refine lv_aload_n hx hb d_X4_billIn_12 rfl (lv_at hl 0 rfl) ?_
  refine r_get (v := .ref w1) C hP 0 rfl rfl lay_X4 1 (by decide) k_406 rfl d_X4_billIn_13 ?_
  refine lv_iload_n hx hb d_X4_billIn_16 rfl (lv_at hl 2 rfl) ?_
  refine lv_iload_n hx hb d_X4_billIn_17 rfl (lv_at hl 3 rfl) ?_
  have ct_5 : Cut [(h0, eO 4 [.ref lw, .ref w1, .ref w2, .int e0, .int e1, .int e2, .ref ho, .ref m1, .int (nI cm), .ref m2, .ref m3, .int e3, .ref m4, .int e4, .ref m5, .ref m6, .ref m7, .int e5]), (lw, eO 2 [.ref ho, .ref l1, .ref l2, .ref l3, .ref l4]), (ho, eO 0 [.int 0, .int 1, .int 0, .int 0, .int 0, .int 0, .int 0, .int 0, .int 0, .int 0, .ref g1, .ref g2, .ref g3]), (l1, eI (ty 0) 1000 f), (l3, eI (ty 0) 8 v), (w1, eO 7 [.int (nI b), .int (-1)])] [(lw, eO 2 [.ref ho, .ref l1, .ref l2, .ref l3, .ref l4]), (ho, eO 0 [.int 0, .int 1, .int 0, .int 0, .int 0, .int 0, .int 0, .int 0, .int 0, .int 0, .ref g1, .ref g2, .ref g3]), (l1, eI (ty 0) 1000 f), (l3, eI (ty 0) 8 v), (w1, eO 7 [.int (nI b), .int (-1)])] [(h0, eO 4 [.ref lw, .ref w1, .ref w2, .int e0, .int e1, .int e2, .ref ho, .ref m1, .int (nI cm), .ref m2, .ref m3, .int e3, .ref m4, .int e4, .ref m5, .ref m6, .ref m7, .int e5])] [1, 2, 3, 4, 5] [0] := ⟨rfl, rfl, rfl, rfl, by decide⟩
  refine cont_I C hP hD hS ct_5 (run_V (As := [.ref w1, .int n, .int 0]) (rest := []) C hP hD hS ct_5 (c_stepOften l D ty lw ho l1 l2 l3 l4 g1 g2 g3 w1 f v b (-1) n hbd hf) kV_PinchedBill_Reckoner_73 1 rfl rfl rfl rfl hl.1 rfl (nle rfl) d_X4_billIn_18 ⟨by decide, by decide, by decide, by decide⟩) (fun r_9 w_10 H locs hw_8 hP hD hS => ?_)
  obtain ⟨f9_6, v9_7, hf9_11, rfl, rfl⟩ := hw_8
  have hP : va_P D vwCl [(h0, eO 4 [.ref lw, .ref w1, .ref w2, .int e0, .int e1, .int e2, .ref ho, .ref m1, .int (nI cm), .ref m2, .ref m3, .int e3, .ref m4, .int e4, .ref m5, .ref m6, .ref m7, .int e5]), (lw, eO 2 [.ref ho, .ref l1, .ref l2, .ref l3, .ref l4]), (ho, eO 0 [.int 0, .int 1, .int 0, .int 0, .int 0, .int 0, .int 0, .int 0, .int 0, .int 0, .ref g1, .ref g2, .ref g3]), (l1, eI (ty 0) 1000 f9_6), (l3, eI (ty 0) 8 v9_7), (w1, eO 7 [.int (nI b), .int (-1)])] H := hP
  have hD : va_D A [(h0, eO 4 [.ref lw, .ref w1, .ref w2, .int e0, .int e1, .int e2, .ref ho, .ref m1, .int (nI cm), .ref m2, .ref m3, .int e3, .ref m4, .int e4, .ref m5, .ref m6, .ref m7, .int e5]), (lw, eO 2 [.ref ho, .ref l1, .ref l2, .ref l3, .ref l4]), (ho, eO 0 [.int 0, .int 1, .int 0, .int 0, .int 0, .int 0, .int 0, .int 0, .int 0, .int 0, .ref g1, .ref g2, .ref g3]), (l1, eI (ty 0) 1000 f9_6), (l3, eI (ty 0) 8 v9_7), (w1, eO 7 [.int (nI b), .int (-1)])] := hD
  refine lv_pop hx hb d_X4_billIn_21 rfl ?_
  refine lv_aload_n hx hb d_X4_billIn_22 rfl (lv_at hl 0 rfl) ?_
  refine r_get (v := .ref w1) C hP 0 rfl rfl lay_X4 1 (by decide) k_406 rfl d_X4_billIn_23 ?_
  refine r_get (v := .int (nI b)) C hP 5 rfl rfl lay_X7 0 (by decide) k_281 rfl d_X4_billIn_26 ?_
  exact ret_I (w := [(h0, eO 4 [.ref lw, .ref w1, .ref w2, .int e0, .int e1, .int e2, .ref ho, .ref m1, .int (nI cm), .ref m2, .ref m3, .int e3, .ref m4, .int e4, .ref m5, .ref m6, .ref m7, .int e5]), (lw, eO 2 [.ref ho, .ref l1, .ref l2, .ref l3, .ref l4]), (ho, eO 0 [.int 0, .int 1, .int 0, .int 0, .int 0, .int 0, .int 0, .int 0, .int 0, .int 0, .ref g1, .ref g2, .ref g3]), (l1, eI (ty 0) 1000 f9_6), (l3, eI (ty 0) 8 v9_7), (w1, eO 7 [.int (nI b), .int (-1)])]) C hP hD hS [0, 1, 2, 3, 4, 5] rfl rfl ⟨f9_6, v9_7, hf9_11, rfl, rfl⟩ (by decide) (by decide) d_X4_billIn_29
set_option maxHeartbeats 4000000 in
set_option maxRecDepth 100000 in
theorem c_trace (l : Launch) (D : va_G) (ty : Nat → ClassId) (h0 : Nat) (ho : Nat) (lw : Nat) (l1 : Nat) (l2 : Nat) (l3 : Nat) (l4 : Nat) (w1 : Nat) (w2 : Nat) (m1 : Nat) (m2 : Nat) (m3 : Nat) (m4 : Nat) (m5 : Nat) (m6 : Nat) (m7 : Nat) (g1 : Nat) (g2 : Nat) (g3 : Nat) (e0 : Int32) (e1 : Int32) (e2 : Int32) (e3 : Int32) (e4 : Int32) (e5 : Int32) (cm : Nat) (wb : Int32) (wk : Int32) (f : Nat → Int32) (v : Nat → Int32) (g : Nat → Int32) (b : Nat) (hbd : b < 1000) (hf : B01 f) (hcm : cm < 1000000) (hmk : MK g cm) : CC l D ty ⟨"PinchedBill$Reckoner", "trace", "(II)V"⟩ prog_6_method_4_code 6 none 4 90 0 0 [.ref h0, .int (nI b), .int 0] [(h0, eO 4 [.ref lw, .ref w1, .ref w2, .int e0, .int e1, .int e2, .ref ho, .ref m1, .int (nI cm), .ref m2, .ref m3, .int e3, .ref m4, .int e4, .ref m5, .ref m6, .ref m7, .int e5]), (lw, eO 2 [.ref ho, .ref l1, .ref l2, .ref l3, .ref l4]), (ho, eO 0 [.int 0, .int 1, .int 0, .int 0, .int 0, .int 0, .int 0, .int 0, .int 0, .int 0, .ref g1, .ref g2, .ref g3]), (l1, eI (ty 0) 1000 f), (l3, eI (ty 0) 8 v), (w1, eO 7 [.int wb, .int wk]), (m1, eI (ty 0) 9000 g)] (QV D ty (fun (w : va_W) => ∃ (f9 : Nat → Int32) (v9 : Nat → Int32) (g9 : Nat → Int32), (B01 f9) ∧ (MK g9 (cm + 9001)) ∧ w = [(h0, eO 4 [.ref lw, .ref w1, .ref w2, .int (nI b), .int 0, .int e2, .ref ho, .ref m1, .int (nI (cm + 9001)), .ref m2, .ref m3, .int e3, .ref m4, .int e4, .ref m5, .ref m6, .ref m7, .int e5]), (lw, eO 2 [.ref ho, .ref l1, .ref l2, .ref l3, .ref l4]), (ho, eO 0 [.int 0, .int 1, .int 0, .int 0, .int 0, .int 0, .int 0, .int 0, .int 0, .int 0, .ref g1, .ref g2, .ref g3]), (l1, eI (ty 0) 1000 f9), (l3, eI (ty 0) 8 v9), (w1, eO 7 [.int (nI b), .int (-1)]), (m1, eI (ty 0) 9000 g9)])) := by
  refine CC_of (by decide) ?_
  intro p e s m below meth c A C hP hD hS
  obtain ⟨⟨hx, hb, hml, hown, hts⟩, hr, hlocks, hnm, hK, hE, hA, hZ⟩ := id C
  refine startW [.ref h0, .int (nI b), .int 0] 6 (nle rfl) (lv := [(0, .ref h0), (1, .int (nI b)), (2, .int 0)]) rfl (fun ls hl => ?_)
  refine lv_aload_n hx hb d_X4_trace_0 rfl (lv_at hl 0 rfl) ?_
  have ct_1 : Cut [(h0, eO 4 [.ref lw, .ref w1, .ref w2, .int e0, .int e1, .int e2, .ref ho, .ref m1, .int (nI cm), .ref m2, .ref m3, .int e3, .ref m4, .int e4, .ref m5, .ref m6, .ref m7, .int e5]), (lw, eO 2 [.ref ho, .ref l1, .ref l2, .ref l3, .ref l4]), (ho, eO 0 [.int 0, .int 1, .int 0, .int 0, .int 0, .int 0, .int 0, .int 0, .int 0, .int 0, .ref g1, .ref g2, .ref g3]), (l1, eI (ty 0) 1000 f), (l3, eI (ty 0) 8 v), (w1, eO 7 [.int wb, .int wk]), (m1, eI (ty 0) 9000 g)] [(h0, eO 4 [.ref lw, .ref w1, .ref w2, .int e0, .int e1, .int e2, .ref ho, .ref m1, .int (nI cm), .ref m2, .ref m3, .int e3, .ref m4, .int e4, .ref m5, .ref m6, .ref m7, .int e5])] [(lw, eO 2 [.ref ho, .ref l1, .ref l2, .ref l3, .ref l4]), (ho, eO 0 [.int 0, .int 1, .int 0, .int 0, .int 0, .int 0, .int 0, .int 0, .int 0, .int 0, .ref g1, .ref g2, .ref g3]), (l1, eI (ty 0) 1000 f), (l3, eI (ty 0) 8 v), (w1, eO 7 [.int wb, .int wk]), (m1, eI (ty 0) 9000 g)] [0] [1, 2, 3, 4, 5, 6] := ⟨rfl, rfl, rfl, rfl, by decide⟩
  refine cont_I C hP hD hS ct_1 (run_V (As := []) (rest := []) C hP hD hS ct_1 (c_fresh l D ty h0 ho lw w1 w2 m1 m2 m3 m4 m5 m6 m7 e0 e1 e2 e3 e4 e5 cm hcm) kV_PinchedBill_Reckoner_80 0 rfl rfl rfl rfl hl.1 rfl (nle rfl) d_X4_trace_1 ⟨by decide, by decide, by decide, by decide⟩) (fun r_3 w_4 H locs hw_2 hP hD hS => ?_)
  obtain ⟨rfl, rfl⟩ := hw_2
  have hP : va_P D vwCl [(lw, eO 2 [.ref ho, .ref l1, .ref l2, .ref l3, .ref l4]), (ho, eO 0 [.int 0, .int 1, .int 0, .int 0, .int 0, .int 0, .int 0, .int 0, .int 0, .int 0, .ref g1, .ref g2, .ref g3]), (l1, eI (ty 0) 1000 f), (l3, eI (ty 0) 8 v), (w1, eO 7 [.int wb, .int wk]), (m1, eI (ty 0) 9000 g), (h0, eO 4 [.ref lw, .ref w1, .ref w2, .int e0, .int e1, .int e2, .ref ho, .ref m1, .int (nI (cm + 9001)), .ref m2, .ref m3, .int e3, .ref m4, .int e4, .ref m5, .ref m6, .ref m7, .int e5])] H := hP
  have hD : va_D A [(lw, eO 2 [.ref ho, .ref l1, .ref l2, .ref l3, .ref l4]), (ho, eO 0 [.int 0, .int 1, .int 0, .int 0, .int 0, .int 0, .int 0, .int 0, .int 0, .int 0, .ref g1, .ref g2, .ref g3]), (l1, eI (ty 0) 1000 f), (l3, eI (ty 0) 8 v), (w1, eO 7 [.int wb, .int wk]), (m1, eI (ty 0) 9000 g), (h0, eO 4 [.ref lw, .ref w1, .ref w2, .int e0, .int e1, .int e2, .ref ho, .ref m1, .int (nI (cm + 9001)), .ref m2, .ref m3, .int e3, .ref m4, .int e4, .ref m5, .ref m6, .ref m7, .int e5])] := hD
  refine lv_istore_n (lv' := [(3, .int (nI cm)), (0, .ref h0), (1, .int (nI b)), (2, .int 0)]) hx hb d_X4_trace_4 rfl hl (by decide) rfl (fun ls hl => ?_)
  refine lv_aload_n hx hb d_X4_trace_5 rfl (lv_at hl 1 rfl) ?_
  refine r_get (v := .ref w1) C hP 6 rfl rfl lay_X4 1 (by decide) k_406 rfl d_X4_trace_6 ?_
  refine lv_iload_n hx hb d_X4_trace_9 rfl (lv_at hl 2 rfl) ?_
  have ct_5 : Cut [(lw, eO 2 [.ref ho, .ref l1, .ref l2, .ref l3, .ref l4]), (ho, eO 0 [.int 0, .int 1, .int 0, .int 0, .int 0, .int 0, .int 0, .int 0, .int 0, .int 0, .ref g1, .ref g2, .ref g3]), (l1, eI (ty 0) 1000 f), (l3, eI (ty 0) 8 v), (w1, eO 7 [.int wb, .int wk]), (m1, eI (ty 0) 9000 g), (h0, eO 4 [.ref lw, .ref w1, .ref w2, .int e0, .int e1, .int e2, .ref ho, .ref m1, .int (nI (cm + 9001)), .ref m2, .ref m3, .int e3, .ref m4, .int e4, .ref m5, .ref m6, .ref m7, .int e5])] [(w1, eO 7 [.int wb, .int wk])] [(lw, eO 2 [.ref ho, .ref l1, .ref l2, .ref l3, .ref l4]), (ho, eO 0 [.int 0, .int 1, .int 0, .int 0, .int 0, .int 0, .int 0, .int 0, .int 0, .int 0, .ref g1, .ref g2, .ref g3]), (l1, eI (ty 0) 1000 f), (l3, eI (ty 0) 8 v), (m1, eI (ty 0) 9000 g), (h0, eO 4 [.ref lw, .ref w1, .ref w2, .int e0, .int e1, .int e2, .ref ho, .ref m1, .int (nI (cm + 9001)), .ref m2, .ref m3, .int e3, .ref m4, .int e4, .ref m5, .ref m6, .ref m7, .int e5])] [4] [0, 1, 2, 3, 5, 6] := ⟨rfl, rfl, rfl, rfl, by decide⟩
  refine cont_V C hP hD hS ct_5 (run_V (As := [.int (nI b)]) (rest := []) C hP hD hS ct_5 (c_start l D ty w1 wb wk (nI b)) kV_PinchedBill_Reckoner_69 4 rfl rfl rfl rfl hl.1 rfl (nle rfl) d_X4_trace_10 ⟨by decide, by decide, by decide, by decide⟩) (fun w_8 H locs hw_6 hP hD hS => ?_)
  subst hw_6
  have hP : va_P D vwCl [(lw, eO 2 [.ref ho, .ref l1, .ref l2, .ref l3, .ref l4]), (ho, eO 0 [.int 0, .int 1, .int 0, .int 0, .int 0, .int 0, .int 0, .int 0, .int 0, .int 0, .ref g1, .ref g2, .ref g3]), (l1, eI (ty 0) 1000 f), (l3, eI (ty 0) 8 v), (m1, eI (ty 0) 9000 g), (h0, eO 4 [.ref lw, .ref w1, .ref w2, .int e0, .int e1, .int e2, .ref ho, .ref m1, .int (nI (cm + 9001)), .ref m2, .ref m3, .int e3, .ref m4, .int e4, .ref m5, .ref m6, .ref m7, .int e5]), (w1, eO 7 [.int (nI b), .int (-1)])] H := hP
  have hD : va_D A [(lw, eO 2 [.ref ho, .ref l1, .ref l2, .ref l3, .ref l4]), (ho, eO 0 [.int 0, .int 1, .int 0, .int 0, .int 0, .int 0, .int 0, .int 0, .int 0, .int 0, .ref g1, .ref g2, .ref g3]), (l1, eI (ty 0) 1000 f), (l3, eI (ty 0) 8 v), (m1, eI (ty 0) 9000 g), (h0, eO 4 [.ref lw, .ref w1, .ref w2, .int e0, .int e1, .int e2, .ref ho, .ref m1, .int (nI (cm + 9001)), .ref m2, .ref m3, .int e3, .ref m4, .int e4, .ref m5, .ref m6, .ref m7, .int e5]), (w1, eO 7 [.int (nI b), .int (-1)])] := hD
  refine lv_iconst (v := 0) hx hb d_X4_trace_13 (by decide) ?_
  refine lv_istore (lv' := [(4, .int 0), (3, .int (nI cm)), (0, .ref h0), (1, .int (nI b)), (2, .int 0)]) hx hb d_X4_trace_14 hl (by decide) rfl (fun ls hl => ?_)
  refine lv_iload hx hb d_X4_trace_16 (lv_at hl 0 rfl) ?_
  refine lv_sipush (v := 9000) hx hb d_X4_trace_18 (by decide) ?_
  refine b_icmp_gtF C 141 d_X4_trace_21 (by decide) (by decide) ?_
  refine lv_aload_n hx hb d_X4_trace_24 rfl (lv_at hl 2 rfl) ?_
  refine r_get (v := .ref w1) C hP 5 rfl rfl lay_X4 1 (by decide) k_406 rfl d_X4_trace_25 ?_
  refine r_get (v := .int (nI b)) C hP 6 rfl rfl lay_X7 0 (by decide) k_281 rfl d_X4_trace_28 ?_
  refine lv_bipush (v := 9) hx hb d_X4_trace_31 (by decide) ?_
  refine r_imul (z := (nI (b * 9))) C d_X4_trace_33 (a_mul b 9 (b * 9) rfl rfl (by omega)) ?_
  refine lv_aload_n hx hb d_X4_trace_34 rfl (lv_at hl 2 rfl) ?_
  refine r_get (v := .ref w1) C hP 5 rfl rfl lay_X4 1 (by decide) k_406 rfl d_X4_trace_35 ?_
  refine r_get (v := .int (-1)) C hP 6 rfl rfl lay_X7 1 (by decide) k_286 rfl d_X4_trace_38 ?_
  refine r_iadd (z := ((nI (b * 9)) + (-1))) C d_X4_trace_41 rfl ?_
  refine lv_iconst (v := 1) hx hb d_X4_trace_42 (by decide) ?_
  refine r_iadd (z := (nI (b * 9))) C d_X4_trace_43 (m1p1 (b * 9)) ?_
  refine lv_istore (lv' := [(5, .int (nI (b * 9))), (4, .int 0), (3, .int (nI cm)), (0, .ref h0), (1, .int (nI b)), (2, .int 0)]) hx hb d_X4_trace_44 hl (by decide) rfl (fun ls hl => ?_)
  refine lv_iload hx hb d_X4_trace_46 (lv_at hl 0 rfl) ?_
  refine b_if_ltF C 59 d_X4_trace_48 (by decide) (n_nlt (b * 9) 0 rfl rfl (by omega) (by omega)) ?_
  refine lv_iload hx hb d_X4_trace_51 (lv_at hl 0 rfl) ?_
  refine lv_sipush (v := 9000) hx hb d_X4_trace_53 (by decide) ?_
  refine b_icmp_ltT C 60 d_X4_trace_56 (by decide) (n_lt (b * 9) 9000 rfl rfl (by omega) (by omega)) ?_
  refine lv_aload_n hx hb d_X4_trace_60 rfl (lv_at hl 3 rfl) ?_
  refine lv_iload hx hb d_X4_trace_61 (lv_at hl 1 rfl) ?_
  refine r_put (w := [(lw, eO 2 [.ref ho, .ref l1, .ref l2, .ref l3, .ref l4]), (ho, eO 0 [.int 0, .int 1, .int 0, .int 0, .int 0, .int 0, .int 0, .int 0, .int 0, .int 0, .ref g1, .ref g2, .ref g3]), (l1, eI (ty 0) 1000 f), (l3, eI (ty 0) 8 v), (m1, eI (ty 0) 9000 g), (h0, eO 4 [.ref lw, .ref w1, .ref w2, .int e0, .int 0, .int e2, .ref ho, .ref m1, .int (nI (cm + 9001)), .ref m2, .ref m3, .int e3, .ref m4, .int e4, .ref m5, .ref m6, .ref m7, .int e5]), (w1, eO 7 [.int (nI b), .int (-1)])]) C hP hD hS 5 rfl rfl lay_X4 tok_X4 nmo_X4 4 (by decide) k_412 rfl rfl rfl (nle rfl) rfl d_X4_trace_63 (fun H locs hP hD hS => ?_)
  refine lv_aload_n hx hb d_X4_trace_66 rfl (lv_at hl 3 rfl) ?_
  refine r_get (v := .ref m1) C hP 5 rfl rfl lay_X4 7 (by decide) k_417 rfl d_X4_trace_67 ?_
  refine lv_iload hx hb d_X4_trace_70 (lv_at hl 0 rfl) ?_
  obtain ⟨k1_9, hk_10, ek_11⟩ := hmk ((b * 9))
  refine r_iald (v := (nI k1_9)) C hP 4 rfl (b * 9) rfl (by omega) (by decide) ek_11 d_X4_trace_72 ?_
  refine lv_iload_n hx hb d_X4_trace_73 rfl (lv_at hl 2 rfl) ?_
  refine b_icmp_ltT C 96 d_X4_trace_74 (by decide) (n_lt k1_9 cm rfl rfl (by omega) (by omega)) ?_
  refine lv_aload_n hx hb d_X4_trace_96 rfl (lv_at hl 3 rfl) ?_
  refine r_get (v := .ref m1) C hP 5 rfl rfl lay_X4 7 (by decide) k_417 rfl d_X4_trace_97 ?_
  refine lv_iload hx hb d_X4_trace_100 (lv_at hl 0 rfl) ?_
  refine lv_iload_n hx hb d_X4_trace_102 rfl (lv_at hl 2 rfl) ?_
  refine lv_iload hx hb d_X4_trace_103 (lv_at hl 1 rfl) ?_
  refine r_iadd (z := (nI cm)) C d_X4_trace_105 (a_add cm 0 cm rfl rfl (by omega)) ?_
  refine r_iast (w := [(lw, eO 2 [.ref ho, .ref l1, .ref l2, .ref l3, .ref l4]), (ho, eO 0 [.int 0, .int 1, .int 0, .int 0, .int 0, .int 0, .int 0, .int 0, .int 0, .int 0, .ref g1, .ref g2, .ref g3]), (l1, eI (ty 0) 1000 f), (l3, eI (ty 0) 8 v), (m1, eI (ty 0) 9000 (upd g (b * 9) (nI cm))), (h0, eO 4 [.ref lw, .ref w1, .ref w2, .int e0, .int 0, .int e2, .ref ho, .ref m1, .int (nI (cm + 9001)), .ref m2, .ref m3, .int e3, .ref m4, .int e4, .ref m5, .ref m6, .ref m7, .int e5]), (w1, eO 7 [.int (nI b), .int (-1)])]) C hP hD hS 4 rfl (b * 9) rfl (by omega) (by decide) rfl d_X4_trace_106 (fun H locs hP hD hS => ?_)
  refine lv_aload_n hx hb d_X4_trace_107 rfl (lv_at hl 3 rfl) ?_
  refine r_get (v := .ref lw) C hP 5 rfl rfl lay_X4 0 (by decide) k_404 rfl d_X4_trace_108 ?_
  refine lv_aload_n hx hb d_X4_trace_111 rfl (lv_at hl 3 rfl) ?_
  refine r_get (v := .ref w1) C hP 5 rfl rfl lay_X4 1 (by decide) k_406 rfl d_X4_trace_112 ?_
  refine lv_iload_n hx hb d_X4_trace_115 rfl (lv_at hl 5 rfl) ?_
  have ct_12 : Cut [(lw, eO 2 [.ref ho, .ref l1, .ref l2, .ref l3, .ref l4]), (ho, eO 0 [.int 0, .int 1, .int 0, .int 0, .int 0, .int 0, .int 0, .int 0, .int 0, .int 0, .ref g1, .ref g2, .ref g3]), (l1, eI (ty 0) 1000 f), (l3, eI (ty 0) 8 v), (m1, eI (ty 0) 9000 (upd g (b * 9) (nI cm))), (h0, eO 4 [.ref lw, .ref w1, .ref w2, .int e0, .int 0, .int e2, .ref ho, .ref m1, .int (nI (cm + 9001)), .ref m2, .ref m3, .int e3, .ref m4, .int e4, .ref m5, .ref m6, .ref m7, .int e5]), (w1, eO 7 [.int (nI b), .int (-1)])] [(lw, eO 2 [.ref ho, .ref l1, .ref l2, .ref l3, .ref l4]), (ho, eO 0 [.int 0, .int 1, .int 0, .int 0, .int 0, .int 0, .int 0, .int 0, .int 0, .int 0, .ref g1, .ref g2, .ref g3]), (l1, eI (ty 0) 1000 f), (l3, eI (ty 0) 8 v), (w1, eO 7 [.int (nI b), .int (-1)])] [(m1, eI (ty 0) 9000 (upd g (b * 9) (nI cm))), (h0, eO 4 [.ref lw, .ref w1, .ref w2, .int e0, .int 0, .int e2, .ref ho, .ref m1, .int (nI (cm + 9001)), .ref m2, .ref m3, .int e3, .ref m4, .int e4, .ref m5, .ref m6, .ref m7, .int e5])] [0, 1, 2, 3, 6] [4, 5] := ⟨rfl, rfl, rfl, rfl, by decide⟩
  refine cont_I C hP hD hS ct_12 (run_V (As := [.ref w1, .int 0]) (rest := []) C hP hD hS ct_12 (c_step l D ty lw ho l1 l2 l3 l4 g1 g2 g3 w1 f v b (-1) hbd hf) kV_PinchedBill_Reckoner_96 0 rfl rfl rfl rfl hl.1 rfl (nle rfl) d_X4_trace_116 ⟨by decide, by decide, by decide, by decide⟩) (fun r_16 w_17 H locs hw_15 hP hD hS => ?_)
  obtain ⟨f9_13, v9_14, hf9_18, rfl, rfl⟩ := hw_15
  have hP : va_P D vwCl [(m1, eI (ty 0) 9000 (upd g (b * 9) (nI cm))), (h0, eO 4 [.ref lw, .ref w1, .ref w2, .int e0, .int 0, .int e2, .ref ho, .ref m1, .int (nI (cm + 9001)), .ref m2, .ref m3, .int e3, .ref m4, .int e4, .ref m5, .ref m6, .ref m7, .int e5]), (lw, eO 2 [.ref ho, .ref l1, .ref l2, .ref l3, .ref l4]), (ho, eO 0 [.int 0, .int 1, .int 0, .int 0, .int 0, .int 0, .int 0, .int 0, .int 0, .int 0, .ref g1, .ref g2, .ref g3]), (l1, eI (ty 0) 1000 f9_13), (l3, eI (ty 0) 8 v9_14), (w1, eO 7 [.int (nI b), .int (-1)])] H := hP
  have hD : va_D A [(m1, eI (ty 0) 9000 (upd g (b * 9) (nI cm))), (h0, eO 4 [.ref lw, .ref w1, .ref w2, .int e0, .int 0, .int e2, .ref ho, .ref m1, .int (nI (cm + 9001)), .ref m2, .ref m3, .int e3, .ref m4, .int e4, .ref m5, .ref m6, .ref m7, .int e5]), (lw, eO 2 [.ref ho, .ref l1, .ref l2, .ref l3, .ref l4]), (ho, eO 0 [.int 0, .int 1, .int 0, .int 0, .int 0, .int 0, .int 0, .int 0, .int 0, .int 0, .ref g1, .ref g2, .ref g3]), (l1, eI (ty 0) 1000 f9_13), (l3, eI (ty 0) 8 v9_14), (w1, eO 7 [.int (nI b), .int (-1)])] := hD
  refine lv_iconst (v := (-1)) hx hb d_X4_trace_119 (by decide) ?_
  refine b_icmp_neF C 135 d_X4_trace_120 (by decide) (by decide) ?_
  refine lv_aload_n hx hb d_X4_trace_123 rfl (lv_at hl 3 rfl) ?_
  refine lv_aload_n hx hb d_X4_trace_124 rfl (lv_at hl 3 rfl) ?_
  refine r_get (v := .ref w1) C hP 1 rfl rfl lay_X4 1 (by decide) k_406 rfl d_X4_trace_125 ?_
  refine r_get (v := .int (nI b)) C hP 6 rfl rfl lay_X7 0 (by decide) k_281 rfl d_X4_trace_128 ?_
  refine r_put (w := [(m1, eI (ty 0) 9000 (upd g (b * 9) (nI cm))), (h0, eO 4 [.ref lw, .ref w1, .ref w2, .int (nI b), .int 0, .int e2, .ref ho, .ref m1, .int (nI (cm + 9001)), .ref m2, .ref m3, .int e3, .ref m4, .int e4, .ref m5, .ref m6, .ref m7, .int e5]), (lw, eO 2 [.ref ho, .ref l1, .ref l2, .ref l3, .ref l4]), (ho, eO 0 [.int 0, .int 1, .int 0, .int 0, .int 0, .int 0, .int 0, .int 0, .int 0, .int 0, .ref g1, .ref g2, .ref g3]), (l1, eI (ty 0) 1000 f9_13), (l3, eI (ty 0) 8 v9_14), (w1, eO 7 [.int (nI b), .int (-1)])]) C hP hD hS 1 rfl rfl lay_X4 tok_X4 nmo_X4 3 (by decide) k_410 rfl rfl rfl (nle rfl) rfl d_X4_trace_131 (fun H locs hP hD hS => ?_)
  exact ret_V (w := [(h0, eO 4 [.ref lw, .ref w1, .ref w2, .int (nI b), .int 0, .int e2, .ref ho, .ref m1, .int (nI (cm + 9001)), .ref m2, .ref m3, .int e3, .ref m4, .int e4, .ref m5, .ref m6, .ref m7, .int e5]), (lw, eO 2 [.ref ho, .ref l1, .ref l2, .ref l3, .ref l4]), (ho, eO 0 [.int 0, .int 1, .int 0, .int 0, .int 0, .int 0, .int 0, .int 0, .int 0, .int 0, .ref g1, .ref g2, .ref g3]), (l1, eI (ty 0) 1000 f9_13), (l3, eI (ty 0) 8 v9_14), (w1, eO 7 [.int (nI b), .int (-1)]), (m1, eI (ty 0) 9000 (upd g (b * 9) (nI cm)))]) C hP hD hS [1, 2, 3, 4, 5, 6, 0] rfl rfl ⟨f9_13, v9_14, (upd g (b * 9) (nI cm)), hf9_18, (MK_u hmk (b * 9)), rfl⟩ (by decide) (by decide) d_X4_trace_134
set_option maxHeartbeats 4000000 in
set_option maxRecDepth 100000 in
theorem c_settle (l : Launch) (D : va_G) (ty : Nat → ClassId) (h0 : Nat) (ho : Nat) (lw : Nat) (l1 : Nat) (l2 : Nat) (l3 : Nat) (l4 : Nat) (w1 : Nat) (w2 : Nat) (m1 : Nat) (m2 : Nat) (m3 : Nat) (m4 : Nat) (m5 : Nat) (m6 : Nat) (m7 : Nat) (g1 : Nat) (g2 : Nat) (g3 : Nat) (e0 : Int32) (e1 : Int32) (e2 : Int32) (e4 : Int32) (e5 : Int32) (cm : Nat) (wb : Int32) (wk : Int32) (f : Nat → Int32) (v : Nat → Int32) (g : Nat → Int32) (er : Nat → Int32) (lr : Nat → Int32) (hf : B01 f) (hcm : cm < 100000) (hmk : MK g cm) : CC l D ty ⟨"PinchedBill$Reckoner", "settleAll", "(I)V"⟩ prog_6_method_6_code 4 none 5 115 0 0 [.ref h0, .int 0] [(h0, eO 4 [.ref lw, .ref w1, .ref w2, .int e0, .int e1, .int e2, .ref ho, .ref m1, .int (nI cm), .ref m2, .ref m3, .int (-1), .ref m4, .int e4, .ref m5, .ref m6, .ref m7, .int e5]), (lw, eO 2 [.ref ho, .ref l1, .ref l2, .ref l3, .ref l4]), (ho, eO 0 [.int 0, .int 1, .int 0, .int 0, .int 0, .int 0, .int 0, .int 0, .int 0, .int 0, .ref g1, .ref g2, .ref g3]), (l1, eI (ty 0) 1000 f), (l3, eI (ty 0) 8 v), (w1, eO 7 [.int wb, .int wk]), (m1, eI (ty 0) 9000 g), (m2, eI (ty 0) 1000 er), (m3, eI (ty 0) 1000 lr)] (QV D ty (fun (w : va_W) => ∃ (er9 : Nat → Int32) (lr9 : Nat → Int32) (f9 : Nat → Int32) (v9 : Nat → Int32) (z9 : Nat → Int32), (∀ j, j < 10 → er9 j = nI (j * 100)) ∧ (∀ j, j < 10 → lr9 j = 0) ∧ w = [(h0, eO 4 [.ref lw, .ref w1, .ref w2, .int (z9 0), .int (z9 1), .int e2, .ref ho, .ref m1, .int (z9 2), .ref m2, .ref m3, .int 0, .ref m4, .int e4, .ref m5, .ref m6, .ref m7, .int e5]), (ho, eO 0 [.int 0, .int 1, .int 0, .int 0, .int 0, .int 0, .int 0, .int 0, .int 0, .int 0, .ref g1, .ref g2, .ref g3]), (m2, eI (ty 0) 1000 er9), (m3, eI (ty 0) 1000 lr9)])) := by
  refine CC_of (by decide) ?_
  intro p e s m below meth c A C hP hD hS
  obtain ⟨⟨hx, hb, hml, hown, hts⟩, hr, hlocks, hnm, hK, hE, hA, hZ⟩ := id C
  refine startW [.ref h0, .int 0] 4 (nle rfl) (lv := [(0, .ref h0), (1, .int 0)]) rfl (fun ls hl => ?_)
  refine lv_aload_n hx hb d_X4_settleAll_0 rfl (lv_at hl 0 rfl) ?_
  refine r_get (v := .int (-1)) C hP 0 rfl rfl lay_X4 11 (by decide) k_421 rfl d_X4_settleAll_1 ?_
  refine lv_iload_n hx hb d_X4_settleAll_4 rfl (lv_at hl 1 rfl) ?_
  refine b_icmp_neT C 9 d_X4_settleAll_5 (by decide) (by decide) ?_
  refine lv_iconst (v := 0) hx hb d_X4_settleAll_9 (by decide) ?_
  refine lv_istore_n (lv' := [(2, .int 0), (0, .ref h0), (1, .int 0)]) hx hb d_X4_settleAll_10 rfl hl (by decide) rfl (fun ls hl => ?_)
  refine loopW8 (fun (i : Nat) (cn : Nat) (f2 : Nat → Int32) (v2 : Nat → Int32) (g2_ : Nat → Int32) (er2 : Nat → Int32) (lr2 : Nat → Int32) (z : Nat → Int32) (H : Heap) (locs : List Loc) (ls : Array Slot) => (i ≤ 10) ∧ (cn = cm + 9001 * i) ∧ (B01 f2) ∧ (MK g2_ cn) ∧ (∀ j, j < i → er2 j = nI (j * 100)) ∧ (∀ j, j < i → lr2 j = 0) ∧ va_P D vwCl [(h0, eO 4 [.ref lw, .ref w1, .ref w2, .int (z 0), .int (z 1), .int e2, .ref ho, .ref m1, .int (nI cn), .ref m2, .ref m3, .int (-1), .ref m4, .int e4, .ref m5, .ref m6, .ref m7, .int e5]), (lw, eO 2 [.ref ho, .ref l1, .ref l2, .ref l3, .ref l4]), (ho, eO 0 [.int 0, .int 1, .int 0, .int 0, .int 0, .int 0, .int 0, .int 0, .int 0, .int 0, .ref g1, .ref g2, .ref g3]), (l1, eI (ty 0) 1000 f2), (l3, eI (ty 0) 8 v2), (w1, eO 7 [.int (z 2), .int (z 3)]), (m1, eI (ty 0) 9000 g2_), (m2, eI (ty 0) 1000 er2), (m3, eI (ty 0) 1000 lr2)] H ∧ va_D A [(h0, eO 4 [.ref lw, .ref w1, .ref w2, .int (z 0), .int (z 1), .int e2, .ref ho, .ref m1, .int (nI cn), .ref m2, .ref m3, .int (-1), .ref m4, .int e4, .ref m5, .ref m6, .ref m7, .int e5]), (lw, eO 2 [.ref ho, .ref l1, .ref l2, .ref l3, .ref l4]), (ho, eO 0 [.int 0, .int 1, .int 0, .int 0, .int 0, .int 0, .int 0, .int 0, .int 0, .int 0, .ref g1, .ref g2, .ref g3]), (l1, eI (ty 0) 1000 f2), (l3, eI (ty 0) 8 v2), (w1, eO 7 [.int (z 2), .int (z 3)]), (m1, eI (ty 0) 9000 g2_), (m2, eI (ty 0) 1000 er2), (m3, eI (ty 0) 1000 lr2)] ∧ va_S A s.heap H locs ∧ lv_has ls 4 [(2, .int (nI i)), (0, .ref h0), (1, .int 0)]) (fun (i : Nat) (cn : Nat) (f2 : Nat → Int32) (v2 : Nat → Int32) (g2_ : Nat → Int32) (er2 : Nat → Int32) (lr2 : Nat → Int32) (z : Nat → Int32) => 10 - i) ?_ 0 cm f v g er lr (fun j => match j with | 0 => e0 | 1 => e1 | 2 => wb | _ => wk) ⟨(by omega), (by omega), hf, hmk, (fun j h => absurd h (by omega)), (fun j h => absurd h (by omega)), hP, hD, hS, lv_sub hl [0, 1, 2] rfl⟩
  intro i cn f2 v2 g2_ er2 lr2 z H locs ls hI ih_1
  obtain ⟨hi, hcn, hf2, hmk2, her, hlr, hP, hD, hS, hl⟩ := hI
  refine lv_iload_n hx hb d_X4_settleAll_11 rfl (lv_at hl 0 rfl) ?_
  refine lv_aload_n hx hb d_X4_settleAll_12 rfl (lv_at hl 1 rfl) ?_
  refine r_get (v := .ref ho) C hP 0 rfl rfl lay_X4 6 (by decide) k_416 rfl d_X4_settleAll_13 ?_
  have ct_2 : Cut [(h0, eO 4 [.ref lw, .ref w1, .ref w2, .int (z 0), .int (z 1), .int e2, .ref ho, .ref m1, .int (nI cn), .ref m2, .ref m3, .int (-1), .ref m4, .int e4, .ref m5, .ref m6, .ref m7, .int e5]), (lw, eO 2 [.ref ho, .ref l1, .ref l2, .ref l3, .ref l4]), (ho, eO 0 [.int 0, .int 1, .int 0, .int 0, .int 0, .int 0, .int 0, .int 0, .int 0, .int 0, .ref g1, .ref g2, .ref g3]), (l1, eI (ty 0) 1000 f2), (l3, eI (ty 0) 8 v2), (w1, eO 7 [.int (z 2), .int (z 3)]), (m1, eI (ty 0) 9000 g2_), (m2, eI (ty 0) 1000 er2), (m3, eI (ty 0) 1000 lr2)] [(ho, eO 0 [.int 0, .int 1, .int 0, .int 0, .int 0, .int 0, .int 0, .int 0, .int 0, .int 0, .ref g1, .ref g2, .ref g3])] [(h0, eO 4 [.ref lw, .ref w1, .ref w2, .int (z 0), .int (z 1), .int e2, .ref ho, .ref m1, .int (nI cn), .ref m2, .ref m3, .int (-1), .ref m4, .int e4, .ref m5, .ref m6, .ref m7, .int e5]), (lw, eO 2 [.ref ho, .ref l1, .ref l2, .ref l3, .ref l4]), (l1, eI (ty 0) 1000 f2), (l3, eI (ty 0) 8 v2), (w1, eO 7 [.int (z 2), .int (z 3)]), (m1, eI (ty 0) 9000 g2_), (m2, eI (ty 0) 1000 er2), (m3, eI (ty 0) 1000 lr2)] [2] [0, 1, 3, 4, 5, 6, 7, 8] := ⟨rfl, rfl, rfl, rfl, by decide⟩
  refine cont_I C hP hD hS ct_2 (run_V (As := []) (rest := [.int (nI i)]) C hP hD hS ct_2 (c_bills l D ty ho g1 g2 g3) kV_PinchedBill_Reckoner_107 2 rfl rfl rfl rfl hl.1 rfl (nle rfl) d_X4_settleAll_16 ⟨by decide, by decide, by decide, by decide⟩) (fun r_4 w_5 H locs hw_3 hP hD hS => ?_)
  obtain ⟨rfl, rfl⟩ := hw_3
  have hP : va_P D vwCl [(h0, eO 4 [.ref lw, .ref w1, .ref w2, .int (z 0), .int (z 1), .int e2, .ref ho, .ref m1, .int (nI cn), .ref m2, .ref m3, .int (-1), .ref m4, .int e4, .ref m5, .ref m6, .ref m7, .int e5]), (lw, eO 2 [.ref ho, .ref l1, .ref l2, .ref l3, .ref l4]), (l1, eI (ty 0) 1000 f2), (l3, eI (ty 0) 8 v2), (w1, eO 7 [.int (z 2), .int (z 3)]), (m1, eI (ty 0) 9000 g2_), (m2, eI (ty 0) 1000 er2), (m3, eI (ty 0) 1000 lr2), (ho, eO 0 [.int 0, .int 1, .int 0, .int 0, .int 0, .int 0, .int 0, .int 0, .int 0, .int 0, .ref g1, .ref g2, .ref g3])] H := hP
  have hD : va_D A [(h0, eO 4 [.ref lw, .ref w1, .ref w2, .int (z 0), .int (z 1), .int e2, .ref ho, .ref m1, .int (nI cn), .ref m2, .ref m3, .int (-1), .ref m4, .int e4, .ref m5, .ref m6, .ref m7, .int e5]), (lw, eO 2 [.ref ho, .ref l1, .ref l2, .ref l3, .ref l4]), (l1, eI (ty 0) 1000 f2), (l3, eI (ty 0) 8 v2), (w1, eO 7 [.int (z 2), .int (z 3)]), (m1, eI (ty 0) 9000 g2_), (m2, eI (ty 0) 1000 er2), (m3, eI (ty 0) 1000 lr2), (ho, eO 0 [.int 0, .int 1, .int 0, .int 0, .int 0, .int 0, .int 0, .int 0, .int 0, .int 0, .ref g1, .ref g2, .ref g3])] := hD
  refine lv_icmp_ge (tgt := 63) hx hb d_X4_settleAll_19 (by decide) (fun hc_6 => ?_) (fun hc_6 => ?_)
  · have hc_6 := un_le 10 i rfl rfl (by omega) (by omega) hc_6
    obtain rfl : i = 10 := by omega
    refine lv_aload_n hx hb d_X4_settleAll_63 rfl (lv_at hl 1 rfl) ?_
    refine lv_iload_n hx hb d_X4_settleAll_64 rfl (lv_at hl 2 rfl) ?_
    refine r_put (w := [(h0, eO 4 [.ref lw, .ref w1, .ref w2, .int (z 0), .int (z 1), .int e2, .ref ho, .ref m1, .int (nI cn), .ref m2, .ref m3, .int 0, .ref m4, .int e4, .ref m5, .ref m6, .ref m7, .int e5]), (lw, eO 2 [.ref ho, .ref l1, .ref l2, .ref l3, .ref l4]), (l1, eI (ty 0) 1000 f2), (l3, eI (ty 0) 8 v2), (w1, eO 7 [.int (z 2), .int (z 3)]), (m1, eI (ty 0) 9000 g2_), (m2, eI (ty 0) 1000 er2), (m3, eI (ty 0) 1000 lr2), (ho, eO 0 [.int 0, .int 1, .int 0, .int 0, .int 0, .int 0, .int 0, .int 0, .int 0, .int 0, .ref g1, .ref g2, .ref g3])]) C hP hD hS 0 rfl rfl lay_X4 tok_X4 nmo_X4 11 (by decide) k_421 rfl rfl rfl (nle rfl) rfl d_X4_settleAll_65 (fun H locs hP hD hS => ?_)
    exact ret_V (w := [(h0, eO 4 [.ref lw, .ref w1, .ref w2, .int (z 0), .int (z 1), .int e2, .ref ho, .ref m1, .int (nI cn), .ref m2, .ref m3, .int 0, .ref m4, .int e4, .ref m5, .ref m6, .ref m7, .int e5]), (ho, eO 0 [.int 0, .int 1, .int 0, .int 0, .int 0, .int 0, .int 0, .int 0, .int 0, .int 0, .ref g1, .ref g2, .ref g3]), (m2, eI (ty 0) 1000 er2), (m3, eI (ty 0) 1000 lr2)]) C hP hD hS [0, 8, 6, 7] rfl rfl ⟨er2, lr2, f2, v2, (fun j => match j with | 0 => (z 0) | 1 => (z 1) | _ => (nI cn)), her, hlr, rfl⟩ (by decide) (by decide) d_X4_settleAll_68
  · have hc_6 := un_nle 10 i rfl rfl (by omega) (by omega) hc_6
    refine lv_aload_n hx hb d_X4_settleAll_22 rfl (lv_at hl 1 rfl) ?_
    refine r_get (v := .ref ho) C hP 0 rfl rfl lay_X4 6 (by decide) k_416 rfl d_X4_settleAll_23 ?_
    refine lv_iload_n hx hb d_X4_settleAll_26 rfl (lv_at hl 0 rfl) ?_
    have ct_7 : Cut [(h0, eO 4 [.ref lw, .ref w1, .ref w2, .int (z 0), .int (z 1), .int e2, .ref ho, .ref m1, .int (nI cn), .ref m2, .ref m3, .int (-1), .ref m4, .int e4, .ref m5, .ref m6, .ref m7, .int e5]), (lw, eO 2 [.ref ho, .ref l1, .ref l2, .ref l3, .ref l4]), (l1, eI (ty 0) 1000 f2), (l3, eI (ty 0) 8 v2), (w1, eO 7 [.int (z 2), .int (z 3)]), (m1, eI (ty 0) 9000 g2_), (m2, eI (ty 0) 1000 er2), (m3, eI (ty 0) 1000 lr2), (ho, eO 0 [.int 0, .int 1, .int 0, .int 0, .int 0, .int 0, .int 0, .int 0, .int 0, .int 0, .ref g1, .ref g2, .ref g3])] [(ho, eO 0 [.int 0, .int 1, .int 0, .int 0, .int 0, .int 0, .int 0, .int 0, .int 0, .int 0, .ref g1, .ref g2, .ref g3])] [(h0, eO 4 [.ref lw, .ref w1, .ref w2, .int (z 0), .int (z 1), .int e2, .ref ho, .ref m1, .int (nI cn), .ref m2, .ref m3, .int (-1), .ref m4, .int e4, .ref m5, .ref m6, .ref m7, .int e5]), (lw, eO 2 [.ref ho, .ref l1, .ref l2, .ref l3, .ref l4]), (l1, eI (ty 0) 1000 f2), (l3, eI (ty 0) 8 v2), (w1, eO 7 [.int (z 2), .int (z 3)]), (m1, eI (ty 0) 9000 g2_), (m2, eI (ty 0) 1000 er2), (m3, eI (ty 0) 1000 lr2)] [8] [0, 1, 2, 3, 4, 5, 6, 7] := ⟨rfl, rfl, rfl, rfl, by decide⟩
    refine cont_I C hP hD hS ct_7 (run_V (As := [.int (nI i)]) (rest := []) C hP hD hS ct_7 (c_billAt l D ty ho g1 g2 g3 i (by omega)) kV_PinchedBill_Reckoner_112 8 rfl rfl rfl rfl hl.1 rfl (nle rfl) d_X4_settleAll_27 ⟨by decide, by decide, by decide, by decide⟩) (fun r_9 w_10 H locs hw_8 hP hD hS => ?_)
    obtain ⟨rfl, rfl⟩ := hw_8
    have hP : va_P D vwCl [(h0, eO 4 [.ref lw, .ref w1, .ref w2, .int (z 0), .int (z 1), .int e2, .ref ho, .ref m1, .int (nI cn), .ref m2, .ref m3, .int (-1), .ref m4, .int e4, .ref m5, .ref m6, .ref m7, .int e5]), (lw, eO 2 [.ref ho, .ref l1, .ref l2, .ref l3, .ref l4]), (l1, eI (ty 0) 1000 f2), (l3, eI (ty 0) 8 v2), (w1, eO 7 [.int (z 2), .int (z 3)]), (m1, eI (ty 0) 9000 g2_), (m2, eI (ty 0) 1000 er2), (m3, eI (ty 0) 1000 lr2), (ho, eO 0 [.int 0, .int 1, .int 0, .int 0, .int 0, .int 0, .int 0, .int 0, .int 0, .int 0, .ref g1, .ref g2, .ref g3])] H := hP
    have hD : va_D A [(h0, eO 4 [.ref lw, .ref w1, .ref w2, .int (z 0), .int (z 1), .int e2, .ref ho, .ref m1, .int (nI cn), .ref m2, .ref m3, .int (-1), .ref m4, .int e4, .ref m5, .ref m6, .ref m7, .int e5]), (lw, eO 2 [.ref ho, .ref l1, .ref l2, .ref l3, .ref l4]), (l1, eI (ty 0) 1000 f2), (l3, eI (ty 0) 8 v2), (w1, eO 7 [.int (z 2), .int (z 3)]), (m1, eI (ty 0) 9000 g2_), (m2, eI (ty 0) 1000 er2), (m3, eI (ty 0) 1000 lr2), (ho, eO 0 [.int 0, .int 1, .int 0, .int 0, .int 0, .int 0, .int 0, .int 0, .int 0, .int 0, .ref g1, .ref g2, .ref g3])] := hD
    refine lv_istore_n (lv' := [(3, .int (nI (i * 100))), (2, .int (nI i)), (0, .ref h0), (1, .int 0)]) hx hb d_X4_settleAll_30 rfl hl (by decide) rfl (fun ls hl => ?_)
    refine lv_aload_n hx hb d_X4_settleAll_31 rfl (lv_at hl 2 rfl) ?_
    refine lv_iload_n hx hb d_X4_settleAll_32 rfl (lv_at hl 0 rfl) ?_
    refine lv_iload_n hx hb d_X4_settleAll_33 rfl (lv_at hl 3 rfl) ?_
    have ct_11 : Cut [(h0, eO 4 [.ref lw, .ref w1, .ref w2, .int (z 0), .int (z 1), .int e2, .ref ho, .ref m1, .int (nI cn), .ref m2, .ref m3, .int (-1), .ref m4, .int e4, .ref m5, .ref m6, .ref m7, .int e5]), (lw, eO 2 [.ref ho, .ref l1, .ref l2, .ref l3, .ref l4]), (l1, eI (ty 0) 1000 f2), (l3, eI (ty 0) 8 v2), (w1, eO 7 [.int (z 2), .int (z 3)]), (m1, eI (ty 0) 9000 g2_), (m2, eI (ty 0) 1000 er2), (m3, eI (ty 0) 1000 lr2), (ho, eO 0 [.int 0, .int 1, .int 0, .int 0, .int 0, .int 0, .int 0, .int 0, .int 0, .int 0, .ref g1, .ref g2, .ref g3])] [(h0, eO 4 [.ref lw, .ref w1, .ref w2, .int (z 0), .int (z 1), .int e2, .ref ho, .ref m1, .int (nI cn), .ref m2, .ref m3, .int (-1), .ref m4, .int e4, .ref m5, .ref m6, .ref m7, .int e5]), (lw, eO 2 [.ref ho, .ref l1, .ref l2, .ref l3, .ref l4]), (ho, eO 0 [.int 0, .int 1, .int 0, .int 0, .int 0, .int 0, .int 0, .int 0, .int 0, .int 0, .ref g1, .ref g2, .ref g3]), (l1, eI (ty 0) 1000 f2), (l3, eI (ty 0) 8 v2), (w1, eO 7 [.int (z 2), .int (z 3)]), (m1, eI (ty 0) 9000 g2_)] [(m2, eI (ty 0) 1000 er2), (m3, eI (ty 0) 1000 lr2)] [0, 1, 8, 2, 3, 4, 5] [6, 7] := ⟨rfl, rfl, rfl, rfl, by decide⟩
    refine cont_V C hP hD hS ct_11 (run_V (As := [.int (nI (i * 100)), .int 0]) (rest := []) C hP hD hS ct_11 (c_trace l D ty h0 ho lw l1 l2 l3 l4 w1 w2 m1 m2 m3 m4 m5 m6 m7 g1 g2 g3 (z 0) (z 1) e2 (-1) e4 e5 cn (z 2) (z 3) f2 v2 g2_ (i * 100) (by omega) hf2 (by omega) hmk2) kV_PinchedBill_Reckoner_116 0 rfl rfl rfl rfl hl.1 rfl (nle rfl) d_X4_settleAll_34 ⟨by decide, by decide, by decide, by decide⟩) (fun w_17 H locs hw_15 hP hD hS => ?_)
    obtain ⟨f9_12, v9_13, g9_14, hf9_18, hmk9_19, rfl⟩ := hw_15
    have hP : va_P D vwCl [(m2, eI (ty 0) 1000 er2), (m3, eI (ty 0) 1000 lr2), (h0, eO 4 [.ref lw, .ref w1, .ref w2, .int (nI (i * 100)), .int 0, .int e2, .ref ho, .ref m1, .int (nI (cn + 9001)), .ref m2, .ref m3, .int (-1), .ref m4, .int e4, .ref m5, .ref m6, .ref m7, .int e5]), (lw, eO 2 [.ref ho, .ref l1, .ref l2, .ref l3, .ref l4]), (ho, eO 0 [.int 0, .int 1, .int 0, .int 0, .int 0, .int 0, .int 0, .int 0, .int 0, .int 0, .ref g1, .ref g2, .ref g3]), (l1, eI (ty 0) 1000 f9_12), (l3, eI (ty 0) 8 v9_13), (w1, eO 7 [.int (nI (i * 100)), .int (-1)]), (m1, eI (ty 0) 9000 g9_14)] H := hP
    have hD : va_D A [(m2, eI (ty 0) 1000 er2), (m3, eI (ty 0) 1000 lr2), (h0, eO 4 [.ref lw, .ref w1, .ref w2, .int (nI (i * 100)), .int 0, .int e2, .ref ho, .ref m1, .int (nI (cn + 9001)), .ref m2, .ref m3, .int (-1), .ref m4, .int e4, .ref m5, .ref m6, .ref m7, .int e5]), (lw, eO 2 [.ref ho, .ref l1, .ref l2, .ref l3, .ref l4]), (ho, eO 0 [.int 0, .int 1, .int 0, .int 0, .int 0, .int 0, .int 0, .int 0, .int 0, .int 0, .ref g1, .ref g2, .ref g3]), (l1, eI (ty 0) 1000 f9_12), (l3, eI (ty 0) 8 v9_13), (w1, eO 7 [.int (nI (i * 100)), .int (-1)]), (m1, eI (ty 0) 9000 g9_14)] := hD
    refine lv_aload_n hx hb d_X4_settleAll_37 rfl (lv_at hl 2 rfl) ?_
    refine r_get (v := .ref m2) C hP 2 rfl rfl lay_X4 9 (by decide) k_419 rfl d_X4_settleAll_38 ?_
    refine lv_iload_n hx hb d_X4_settleAll_41 rfl (lv_at hl 1 rfl) ?_
    refine lv_aload_n hx hb d_X4_settleAll_42 rfl (lv_at hl 2 rfl) ?_
    refine r_get (v := .int (nI (i * 100))) C hP 2 rfl rfl lay_X4 3 (by decide) k_410 rfl d_X4_settleAll_43 ?_
    refine r_iast (w := [(m2, eI (ty 0) 1000 (upd er2 i (nI (i * 100)))), (m3, eI (ty 0) 1000 lr2), (h0, eO 4 [.ref lw, .ref w1, .ref w2, .int (nI (i * 100)), .int 0, .int e2, .ref ho, .ref m1, .int (nI (cn + 9001)), .ref m2, .ref m3, .int (-1), .ref m4, .int e4, .ref m5, .ref m6, .ref m7, .int e5]), (lw, eO 2 [.ref ho, .ref l1, .ref l2, .ref l3, .ref l4]), (ho, eO 0 [.int 0, .int 1, .int 0, .int 0, .int 0, .int 0, .int 0, .int 0, .int 0, .int 0, .ref g1, .ref g2, .ref g3]), (l1, eI (ty 0) 1000 f9_12), (l3, eI (ty 0) 8 v9_13), (w1, eO 7 [.int (nI (i * 100)), .int (-1)]), (m1, eI (ty 0) 9000 g9_14)]) C hP hD hS 0 rfl i rfl (by omega) (by decide) rfl d_X4_settleAll_46 (fun H locs hP hD hS => ?_)
    refine lv_aload_n hx hb d_X4_settleAll_47 rfl (lv_at hl 2 rfl) ?_
    refine r_get (v := .ref m3) C hP 2 rfl rfl lay_X4 10 (by decide) k_420 rfl d_X4_settleAll_48 ?_
    refine lv_iload_n hx hb d_X4_settleAll_51 rfl (lv_at hl 1 rfl) ?_
    refine lv_aload_n hx hb d_X4_settleAll_52 rfl (lv_at hl 2 rfl) ?_
    refine r_get (v := .int 0) C hP 2 rfl rfl lay_X4 4 (by decide) k_412 rfl d_X4_settleAll_53 ?_
    refine r_iast (w := [(m2, eI (ty 0) 1000 (upd er2 i (nI (i * 100)))), (m3, eI (ty 0) 1000 (upd lr2 i 0)), (h0, eO 4 [.ref lw, .ref w1, .ref w2, .int (nI (i * 100)), .int 0, .int e2, .ref ho, .ref m1, .int (nI (cn + 9001)), .ref m2, .ref m3, .int (-1), .ref m4, .int e4, .ref m5, .ref m6, .ref m7, .int e5]), (lw, eO 2 [.ref ho, .ref l1, .ref l2, .ref l3, .ref l4]), (ho, eO 0 [.int 0, .int 1, .int 0, .int 0, .int 0, .int 0, .int 0, .int 0, .int 0, .int 0, .ref g1, .ref g2, .ref g3]), (l1, eI (ty 0) 1000 f9_12), (l3, eI (ty 0) 8 v9_13), (w1, eO 7 [.int (nI (i * 100)), .int (-1)]), (m1, eI (ty 0) 9000 g9_14)]) C hP hD hS 1 rfl i rfl (by omega) (by decide) rfl d_X4_settleAll_56 (fun H locs hP hD hS => ?_)
    refine lv_iinc (v := (nI (i + 1))) (lv' := [(2, .int (nI (i + 1))), (3, .int (nI (i * 100))), (0, .ref h0), (1, .int 0)]) (k := 1) hx hb d_X4_settleAll_57 hl rfl (a_inc i 1 (i + 1) rfl rfl) (by decide) rfl (fun ls hl => ?_)
    refine lv_goto (tgt := 11) hx hb d_X4_settleAll_60 (by decide) ?_
    exact ih_1 (i + 1) (cn + 9001) f9_12 v9_13 g9_14 (upd er2 i (nI (i * 100))) (upd lr2 i 0) (fun j => match j with | 0 => (nI (i * 100)) | 1 => 0 | 2 => (nI (i * 100)) | _ => (-1)) _ _ _ (by omega) ⟨(by omega), (by omega), hf9_18, hmk9_19, (up_I her rfl), (up_I hlr rfl), sub_P hP (is := [2, 3, 4, 5, 6, 7, 8, 0, 1]) rfl, hD.sub [2, 3, 4, 5, 6, 7, 8, 0, 1] (by decide) rfl, hS, lv_sub hl [0, 2, 3] rfl⟩

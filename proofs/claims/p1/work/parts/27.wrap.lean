theorem d_L_house_0 : decode method_3_code 0 = .ok (.aload_n 2, 1) := by decide +kernel
theorem d_L_house_1 : decode method_3_code 1 = .ok (.iconst 0, 1) := by decide +kernel
theorem d_L_house_2 : decode method_3_code 2 = .ok (.aload_n 0, 1) := by decide +kernel
theorem d_L_house_3 : decode method_3_code 3 = .ok (.iload_n 1, 1) := by decide +kernel
theorem k_660 : Cond.code ⟨"PinchedBill", "house", "(I)I"⟩ prog_1_method_3_code 2 (some .int) ∈ gd_tbl := gd_in 660 (by decide +kernel) (by decide +kernel)
theorem k_657 : Cond.methodLink "PinchedBillLaw" 7 ⟨"PinchedBill", "house", "(I)I"⟩ ∈ gd_tbl := gd_in 657 (by decide +kernel) (by decide +kernel)
theorem k_658 : Cond.instanceMethod ⟨"PinchedBill", "house", "(I)I"⟩ ∈ gd_tbl := gd_in 658 (by decide +kernel) (by decide +kernel)
theorem k_659 : Cond.selects "PinchedBill" ⟨"PinchedBill", "house", "(I)I"⟩ ⟨"PinchedBill", "house", "(I)I"⟩ ∈ gd_tbl := gd_in 659 (by decide +kernel) (by decide +kernel)
theorem kV_PinchedBillLaw_7 : kV "PinchedBillLaw" 7 ⟨"PinchedBill", "house", "(I)I"⟩ prog_1_method_3_code 2 (some .int) 1 := ⟨k_657, k_658, k_659, k_117, k_660, by decide, by decide, by decide +kernel⟩
theorem d_L_house_4 : decode method_3_code 4 = .ok (.invokevirtual 7, 3) := by decide +kernel
theorem k_656 : Cond.classLink "PinchedBillLaw" 13 "java/lang/IllegalArgumentException" ∈ gd_tbl := gd_in 656 (by decide +kernel) (by decide +kernel)
theorem d_L_house_12 : decode method_3_code 12 = .ok (.astore_n 3, 1) := by decide +kernel
theorem d_L_house_13 : decode method_3_code 13 = .ok (.iconst 1, 1) := by decide +kernel
theorem d_L_house_14 : decode method_3_code 14 = .ok (.ireturn, 1) := by decide +kernel
theorem d_L_house_7 : decode method_3_code 7 = .ok (.i2l, 1) := by decide +kernel
theorem d_L_house_8 : decode method_3_code 8 = .ok (.lastore, 1) := by decide +kernel
theorem d_L_house_9 : decode method_3_code 9 = .ok (.goto 6, 3) := by decide +kernel
theorem d_L_house_15 : decode method_3_code 15 = .ok (.iconst 0, 1) := by decide +kernel
theorem d_L_house_16 : decode method_3_code 16 = .ok (.ireturn, 1) := by decide +kernel
theorem d_L_person_0 : decode method_4_code 0 = .ok (.aload_n 3, 1) := by decide +kernel
theorem d_L_person_1 : decode method_4_code 1 = .ok (.iconst 0, 1) := by decide +kernel
theorem d_L_person_2 : decode method_4_code 2 = .ok (.aload_n 0, 1) := by decide +kernel
theorem d_L_person_3 : decode method_4_code 3 = .ok (.iload_n 1, 1) := by decide +kernel
theorem d_L_person_4 : decode method_4_code 4 = .ok (.iload_n 2, 1) := by decide +kernel
theorem k_994 : Cond.code ⟨"PinchedBill", "person", "(II)I"⟩ prog_1_method_5_code 4 (some .int) ∈ gd_tbl := gd_in 994 (by decide +kernel) (by decide +kernel)
theorem k_991 : Cond.methodLink "PinchedBillLaw" 15 ⟨"PinchedBill", "person", "(II)I"⟩ ∈ gd_tbl := gd_in 991 (by decide +kernel) (by decide +kernel)
theorem k_992 : Cond.instanceMethod ⟨"PinchedBill", "person", "(II)I"⟩ ∈ gd_tbl := gd_in 992 (by decide +kernel) (by decide +kernel)
theorem k_993 : Cond.selects "PinchedBill" ⟨"PinchedBill", "person", "(II)I"⟩ ⟨"PinchedBill", "person", "(II)I"⟩ ∈ gd_tbl := gd_in 993 (by decide +kernel) (by decide +kernel)
theorem kV_PinchedBillLaw_15 : kV "PinchedBillLaw" 15 ⟨"PinchedBill", "person", "(II)I"⟩ prog_1_method_5_code 4 (some .int) 2 := ⟨k_991, k_992, k_993, k_117, k_994, by decide, by decide, by decide +kernel⟩
theorem d_L_person_5 : decode method_4_code 5 = .ok (.invokevirtual 15, 3) := by decide +kernel
theorem k_990 : Cond.classLink "PinchedBillLaw" 19 "java/util/NoSuchElementException" ∈ gd_tbl := gd_in 990 (by decide +kernel) (by decide +kernel)
theorem d_L_person_13 : decode method_4_code 13 = .ok (.astore 4, 2) := by decide +kernel
theorem d_L_person_15 : decode method_4_code 15 = .ok (.iconst 1, 1) := by decide +kernel
theorem d_L_person_16 : decode method_4_code 16 = .ok (.ireturn, 1) := by decide +kernel
theorem d_L_pinched_0 : decode method_5_code 0 = .ok (.aload_n 2, 1) := by decide +kernel
theorem d_L_pinched_1 : decode method_5_code 1 = .ok (.iconst 0, 1) := by decide +kernel
theorem d_L_pinched_2 : decode method_5_code 2 = .ok (.aload_n 0, 1) := by decide +kernel
theorem d_L_pinched_3 : decode method_5_code 3 = .ok (.iload_n 1, 1) := by decide +kernel
theorem k_1026 : Cond.code ⟨"PinchedBill", "pinched", "(I)I"⟩ prog_1_method_9_code 2 (some .int) ∈ gd_tbl := gd_in 1026 (by decide +kernel) (by decide +kernel)
theorem k_1023 : Cond.methodLink "PinchedBillLaw" 21 ⟨"PinchedBill", "pinched", "(I)I"⟩ ∈ gd_tbl := gd_in 1023 (by decide +kernel) (by decide +kernel)
theorem k_1024 : Cond.instanceMethod ⟨"PinchedBill", "pinched", "(I)I"⟩ ∈ gd_tbl := gd_in 1024 (by decide +kernel) (by decide +kernel)
theorem k_1025 : Cond.selects "PinchedBill" ⟨"PinchedBill", "pinched", "(I)I"⟩ ⟨"PinchedBill", "pinched", "(I)I"⟩ ∈ gd_tbl := gd_in 1025 (by decide +kernel) (by decide +kernel)
theorem kV_PinchedBillLaw_21 : kV "PinchedBillLaw" 21 ⟨"PinchedBill", "pinched", "(I)I"⟩ prog_1_method_9_code 2 (some .int) 1 := ⟨k_1023, k_1024, k_1025, k_117, k_1026, by decide, by decide, by decide +kernel⟩
theorem d_L_pinched_4 : decode method_5_code 4 = .ok (.invokevirtual 21, 3) := by decide +kernel
theorem d_L_pinched_12 : decode method_5_code 12 = .ok (.astore_n 3, 1) := by decide +kernel
theorem d_L_pinched_13 : decode method_5_code 13 = .ok (.iconst 1, 1) := by decide +kernel
theorem d_L_pinched_14 : decode method_5_code 14 = .ok (.ireturn, 1) := by decide +kernel
theorem d_L_pinched_7 : decode method_5_code 7 = .ok (.i2l, 1) := by decide +kernel
theorem d_L_pinched_8 : decode method_5_code 8 = .ok (.lastore, 1) := by decide +kernel
theorem d_L_pinched_9 : decode method_5_code 9 = .ok (.goto 6, 3) := by decide +kernel
theorem d_L_pinched_15 : decode method_5_code 15 = .ok (.iconst 0, 1) := by decide +kernel
theorem d_L_pinched_16 : decode method_5_code 16 = .ok (.ireturn, 1) := by decide +kernel
theorem d_L_spoken_0 : decode method_6_code 0 = .ok (.aload_n 3, 1) := by decide +kernel
theorem d_L_spoken_1 : decode method_6_code 1 = .ok (.iconst 0, 1) := by decide +kernel
theorem d_L_spoken_2 : decode method_6_code 2 = .ok (.aload_n 0, 1) := by decide +kernel
theorem d_L_spoken_3 : decode method_6_code 3 = .ok (.iload_n 1, 1) := by decide +kernel
theorem d_L_spoken_4 : decode method_6_code 4 = .ok (.iload_n 2, 1) := by decide +kernel
theorem k_1038 : Cond.code ⟨"PinchedBill", "spoken", "(II)I"⟩ prog_1_method_10_code 3 (some .int) ∈ gd_tbl := gd_in 1038 (by decide +kernel) (by decide +kernel)
theorem k_1035 : Cond.methodLink "PinchedBillLaw" 24 ⟨"PinchedBill", "spoken", "(II)I"⟩ ∈ gd_tbl := gd_in 1035 (by decide +kernel) (by decide +kernel)
theorem k_1036 : Cond.instanceMethod ⟨"PinchedBill", "spoken", "(II)I"⟩ ∈ gd_tbl := gd_in 1036 (by decide +kernel) (by decide +kernel)
theorem k_1037 : Cond.selects "PinchedBill" ⟨"PinchedBill", "spoken", "(II)I"⟩ ⟨"PinchedBill", "spoken", "(II)I"⟩ ∈ gd_tbl := gd_in 1037 (by decide +kernel) (by decide +kernel)
theorem kV_PinchedBillLaw_24 : kV "PinchedBillLaw" 24 ⟨"PinchedBill", "spoken", "(II)I"⟩ prog_1_method_10_code 3 (some .int) 2 := ⟨k_1035, k_1036, k_1037, k_117, k_1038, by decide, by decide, by decide +kernel⟩
theorem d_L_spoken_5 : decode method_6_code 5 = .ok (.invokevirtual 24, 3) := by decide +kernel
theorem d_L_spoken_13 : decode method_6_code 13 = .ok (.astore 4, 2) := by decide +kernel
theorem d_L_spoken_15 : decode method_6_code 15 = .ok (.iconst 1, 1) := by decide +kernel
theorem d_L_spoken_16 : decode method_6_code 16 = .ok (.ireturn, 1) := by decide +kernel
theorem d_L_steps_0 : decode method_7_code 0 = .ok (.aload_n 2, 1) := by decide +kernel
theorem d_L_steps_1 : decode method_7_code 1 = .ok (.iconst 0, 1) := by decide +kernel
theorem d_L_steps_2 : decode method_7_code 2 = .ok (.aload_n 0, 1) := by decide +kernel
theorem d_L_steps_3 : decode method_7_code 3 = .ok (.iload_n 1, 1) := by decide +kernel
theorem k_1046 : Cond.code ⟨"PinchedBill", "steps", "(I)I"⟩ prog_1_method_11_code 2 (some .int) ∈ gd_tbl := gd_in 1046 (by decide +kernel) (by decide +kernel)
theorem k_1043 : Cond.methodLink "PinchedBillLaw" 27 ⟨"PinchedBill", "steps", "(I)I"⟩ ∈ gd_tbl := gd_in 1043 (by decide +kernel) (by decide +kernel)
theorem k_1044 : Cond.instanceMethod ⟨"PinchedBill", "steps", "(I)I"⟩ ∈ gd_tbl := gd_in 1044 (by decide +kernel) (by decide +kernel)
theorem k_1045 : Cond.selects "PinchedBill" ⟨"PinchedBill", "steps", "(I)I"⟩ ⟨"PinchedBill", "steps", "(I)I"⟩ ∈ gd_tbl := gd_in 1045 (by decide +kernel) (by decide +kernel)
theorem kV_PinchedBillLaw_27 : kV "PinchedBillLaw" 27 ⟨"PinchedBill", "steps", "(I)I"⟩ prog_1_method_11_code 2 (some .int) 1 := ⟨k_1043, k_1044, k_1045, k_117, k_1046, by decide, by decide, by decide +kernel⟩
theorem d_L_steps_4 : decode method_7_code 4 = .ok (.invokevirtual 27, 3) := by decide +kernel
theorem d_L_steps_12 : decode method_7_code 12 = .ok (.astore_n 3, 1) := by decide +kernel
theorem d_L_steps_13 : decode method_7_code 13 = .ok (.iconst 1, 1) := by decide +kernel
theorem d_L_steps_14 : decode method_7_code 14 = .ok (.ireturn, 1) := by decide +kernel
theorem d_L_steps_7 : decode method_7_code 7 = .ok (.i2l, 1) := by decide +kernel
theorem d_L_steps_8 : decode method_7_code 8 = .ok (.lastore, 1) := by decide +kernel
theorem d_L_steps_9 : decode method_7_code 9 = .ok (.goto 6, 3) := by decide +kernel
theorem d_L_steps_15 : decode method_7_code 15 = .ok (.iconst 0, 1) := by decide +kernel
theorem d_L_steps_16 : decode method_7_code 16 = .ok (.ireturn, 1) := by decide +kernel
theorem d_L_undo_0 : decode method_8_code 0 = .ok (.aload_n 2, 1) := by decide +kernel
theorem d_L_undo_1 : decode method_8_code 1 = .ok (.iconst 0, 1) := by decide +kernel
theorem d_L_undo_2 : decode method_8_code 2 = .ok (.aload_n 0, 1) := by decide +kernel
theorem d_L_undo_3 : decode method_8_code 3 = .ok (.iload_n 1, 1) := by decide +kernel
theorem k_1058 : Cond.code ⟨"PinchedBill", "undo", "(I)I"⟩ prog_1_method_15_code 3 (some .int) ∈ gd_tbl := gd_in 1058 (by decide +kernel) (by decide +kernel)
theorem k_1055 : Cond.methodLink "PinchedBillLaw" 30 ⟨"PinchedBill", "undo", "(I)I"⟩ ∈ gd_tbl := gd_in 1055 (by decide +kernel) (by decide +kernel)
theorem k_1056 : Cond.instanceMethod ⟨"PinchedBill", "undo", "(I)I"⟩ ∈ gd_tbl := gd_in 1056 (by decide +kernel) (by decide +kernel)
theorem k_1057 : Cond.selects "PinchedBill" ⟨"PinchedBill", "undo", "(I)I"⟩ ⟨"PinchedBill", "undo", "(I)I"⟩ ∈ gd_tbl := gd_in 1057 (by decide +kernel) (by decide +kernel)
theorem kV_PinchedBillLaw_30 : kV "PinchedBillLaw" 30 ⟨"PinchedBill", "undo", "(I)I"⟩ prog_1_method_15_code 3 (some .int) 1 := ⟨k_1055, k_1056, k_1057, k_117, k_1058, by decide, by decide, by decide +kernel⟩
theorem d_L_undo_4 : decode method_8_code 4 = .ok (.invokevirtual 30, 3) := by decide +kernel
theorem d_L_undo_12 : decode method_8_code 12 = .ok (.astore_n 3, 1) := by decide +kernel
theorem d_L_undo_13 : decode method_8_code 13 = .ok (.iconst 1, 1) := by decide +kernel
theorem d_L_undo_14 : decode method_8_code 14 = .ok (.ireturn, 1) := by decide +kernel
theorem d_L_judge_0 : decode method_9_code 0 = .ok (.aload_n 3, 1) := by decide +kernel
theorem d_L_judge_1 : decode method_9_code 1 = .ok (.iconst 0, 1) := by decide +kernel
theorem d_L_judge_2 : decode method_9_code 2 = .ok (.aload_n 0, 1) := by decide +kernel
theorem d_L_judge_3 : decode method_9_code 3 = .ok (.iload_n 1, 1) := by decide +kernel
theorem d_L_judge_4 : decode method_9_code 4 = .ok (.iload_n 2, 1) := by decide +kernel
theorem k_1070 : Cond.code ⟨"PinchedBill", "judge", "(II)I"⟩ prog_1_method_16_code 5 (some .int) ∈ gd_tbl := gd_in 1070 (by decide +kernel) (by decide +kernel)
theorem k_1067 : Cond.methodLink "PinchedBillLaw" 33 ⟨"PinchedBill", "judge", "(II)I"⟩ ∈ gd_tbl := gd_in 1067 (by decide +kernel) (by decide +kernel)
theorem k_1068 : Cond.instanceMethod ⟨"PinchedBill", "judge", "(II)I"⟩ ∈ gd_tbl := gd_in 1068 (by decide +kernel) (by decide +kernel)
theorem k_1069 : Cond.selects "PinchedBill" ⟨"PinchedBill", "judge", "(II)I"⟩ ⟨"PinchedBill", "judge", "(II)I"⟩ ∈ gd_tbl := gd_in 1069 (by decide +kernel) (by decide +kernel)
theorem kV_PinchedBillLaw_33 : kV "PinchedBillLaw" 33 ⟨"PinchedBill", "judge", "(II)I"⟩ prog_1_method_16_code 5 (some .int) 2 := ⟨k_1067, k_1068, k_1069, k_117, k_1070, by decide, by decide, by decide +kernel⟩
theorem d_L_judge_5 : decode method_9_code 5 = .ok (.invokevirtual 33, 3) := by decide +kernel
theorem d_L_judge_13 : decode method_9_code 13 = .ok (.astore 4, 2) := by decide +kernel
theorem d_L_judge_15 : decode method_9_code 15 = .ok (.iconst 1, 1) := by decide +kernel
theorem d_L_judge_16 : decode method_9_code 16 = .ok (.ireturn, 1) := by decide +kernel
theorem k_1066 : Cond.classLink "PinchedBillLaw" 36 "java/lang/IllegalStateException" ∈ gd_tbl := gd_in 1066 (by decide +kernel) (by decide +kernel)
theorem d_L_judge_17 : decode method_9_code 17 = .ok (.astore 4, 2) := by decide +kernel
theorem d_L_judge_19 : decode method_9_code 19 = .ok (.iconst 2, 1) := by decide +kernel
theorem d_L_judge_20 : decode method_9_code 20 = .ok (.ireturn, 1) := by decide +kernel
theorem d_L_perform_0 : decode method_10_code 0 = .ok (.aload_n 2, 1) := by decide +kernel
theorem d_L_perform_1 : decode method_10_code 1 = .ok (.iconst 0, 1) := by decide +kernel
theorem d_L_perform_2 : decode method_10_code 2 = .ok (.aload_n 0, 1) := by decide +kernel
theorem d_L_perform_3 : decode method_10_code 3 = .ok (.iload_n 1, 1) := by decide +kernel
theorem k_1113 : Cond.code ⟨"PinchedBill", "perform", "(I)I"⟩ prog_1_method_17_code 2 (some .int) ∈ gd_tbl := gd_in 1113 (by decide +kernel) (by decide +kernel)
theorem k_1110 : Cond.methodLink "PinchedBillLaw" 38 ⟨"PinchedBill", "perform", "(I)I"⟩ ∈ gd_tbl := gd_in 1110 (by decide +kernel) (by decide +kernel)
theorem k_1111 : Cond.instanceMethod ⟨"PinchedBill", "perform", "(I)I"⟩ ∈ gd_tbl := gd_in 1111 (by decide +kernel) (by decide +kernel)
theorem k_1112 : Cond.selects "PinchedBill" ⟨"PinchedBill", "perform", "(I)I"⟩ ⟨"PinchedBill", "perform", "(I)I"⟩ ∈ gd_tbl := gd_in 1112 (by decide +kernel) (by decide +kernel)
theorem kV_PinchedBillLaw_38 : kV "PinchedBillLaw" 38 ⟨"PinchedBill", "perform", "(I)I"⟩ prog_1_method_17_code 2 (some .int) 1 := ⟨k_1110, k_1111, k_1112, k_117, k_1113, by decide, by decide, by decide +kernel⟩
theorem d_L_perform_4 : decode method_10_code 4 = .ok (.invokevirtual 38, 3) := by decide +kernel
theorem d_L_perform_12 : decode method_10_code 12 = .ok (.astore_n 3, 1) := by decide +kernel
theorem d_L_perform_13 : decode method_10_code 13 = .ok (.iconst 1, 1) := by decide +kernel
theorem d_L_perform_14 : decode method_10_code 14 = .ok (.ireturn, 1) := by decide +kernel
theorem d_L_perform_15 : decode method_10_code 15 = .ok (.astore_n 3, 1) := by decide +kernel
theorem d_L_perform_16 : decode method_10_code 16 = .ok (.iconst 2, 1) := by decide +kernel
theorem d_L_perform_17 : decode method_10_code 17 = .ok (.ireturn, 1) := by decide +kernel
theorem d_L_winter_0 : decode method_11_code 0 = .ok (.aload_n 3, 1) := by decide +kernel
theorem d_L_winter_1 : decode method_11_code 1 = .ok (.iconst 0, 1) := by decide +kernel
theorem d_L_winter_2 : decode method_11_code 2 = .ok (.aload_n 0, 1) := by decide +kernel
theorem d_L_winter_3 : decode method_11_code 3 = .ok (.iload_n 1, 1) := by decide +kernel
theorem d_L_winter_4 : decode method_11_code 4 = .ok (.iload_n 2, 1) := by decide +kernel
theorem k_1120 : Cond.code ⟨"PinchedBill", "winter", "(II)I"⟩ prog_1_method_18_code 8 (some .int) ∈ gd_tbl := gd_in 1120 (by decide +kernel) (by decide +kernel)
theorem k_1117 : Cond.methodLink "PinchedBillLaw" 41 ⟨"PinchedBill", "winter", "(II)I"⟩ ∈ gd_tbl := gd_in 1117 (by decide +kernel) (by decide +kernel)
theorem k_1118 : Cond.instanceMethod ⟨"PinchedBill", "winter", "(II)I"⟩ ∈ gd_tbl := gd_in 1118 (by decide +kernel) (by decide +kernel)
theorem k_1119 : Cond.selects "PinchedBill" ⟨"PinchedBill", "winter", "(II)I"⟩ ⟨"PinchedBill", "winter", "(II)I"⟩ ∈ gd_tbl := gd_in 1119 (by decide +kernel) (by decide +kernel)
theorem kV_PinchedBillLaw_41 : kV "PinchedBillLaw" 41 ⟨"PinchedBill", "winter", "(II)I"⟩ prog_1_method_18_code 8 (some .int) 2 := ⟨k_1117, k_1118, k_1119, k_117, k_1120, by decide, by decide, by decide +kernel⟩
theorem d_L_winter_5 : decode method_11_code 5 = .ok (.invokevirtual 41, 3) := by decide +kernel
theorem d_L_winter_13 : decode method_11_code 13 = .ok (.astore 4, 2) := by decide +kernel
theorem d_L_winter_15 : decode method_11_code 15 = .ok (.iconst 1, 1) := by decide +kernel
theorem d_L_winter_16 : decode method_11_code 16 = .ok (.ireturn, 1) := by decide +kernel
theorem d_L_winter_8 : decode method_11_code 8 = .ok (.i2l, 1) := by decide +kernel
theorem d_L_winter_9 : decode method_11_code 9 = .ok (.lastore, 1) := by decide +kernel
theorem d_L_winter_10 : decode method_11_code 10 = .ok (.goto 7, 3) := by decide +kernel
theorem d_L_winter_17 : decode method_11_code 17 = .ok (.iconst 0, 1) := by decide +kernel
theorem d_L_winter_18 : decode method_11_code 18 = .ok (.ireturn, 1) := by decide +kernel
theorem d_L_ends_0 : decode method_12_code 0 = .ok (.aload_n 2, 1) := by decide +kernel
theorem d_L_ends_1 : decode method_12_code 1 = .ok (.iconst 0, 1) := by decide +kernel
theorem d_L_ends_2 : decode method_12_code 2 = .ok (.aload_n 0, 1) := by decide +kernel
theorem d_L_ends_3 : decode method_12_code 3 = .ok (.iload_n 1, 1) := by decide +kernel
theorem k_1134 : Cond.code ⟨"PinchedBill", "ends", "(I)I"⟩ prog_1_method_19_code 2 (some .int) ∈ gd_tbl := gd_in 1134 (by decide +kernel) (by decide +kernel)
theorem k_1131 : Cond.methodLink "PinchedBillLaw" 44 ⟨"PinchedBill", "ends", "(I)I"⟩ ∈ gd_tbl := gd_in 1131 (by decide +kernel) (by decide +kernel)
theorem k_1132 : Cond.instanceMethod ⟨"PinchedBill", "ends", "(I)I"⟩ ∈ gd_tbl := gd_in 1132 (by decide +kernel) (by decide +kernel)
theorem k_1133 : Cond.selects "PinchedBill" ⟨"PinchedBill", "ends", "(I)I"⟩ ⟨"PinchedBill", "ends", "(I)I"⟩ ∈ gd_tbl := gd_in 1133 (by decide +kernel) (by decide +kernel)
theorem kV_PinchedBillLaw_44 : kV "PinchedBillLaw" 44 ⟨"PinchedBill", "ends", "(I)I"⟩ prog_1_method_19_code 2 (some .int) 1 := ⟨k_1131, k_1132, k_1133, k_117, k_1134, by decide, by decide, by decide +kernel⟩
theorem d_L_ends_4 : decode method_12_code 4 = .ok (.invokevirtual 44, 3) := by decide +kernel
theorem d_L_ends_12 : decode method_12_code 12 = .ok (.astore_n 3, 1) := by decide +kernel
theorem d_L_ends_13 : decode method_12_code 13 = .ok (.iconst 1, 1) := by decide +kernel
theorem d_L_ends_14 : decode method_12_code 14 = .ok (.ireturn, 1) := by decide +kernel
theorem d_L_ends_7 : decode method_12_code 7 = .ok (.i2l, 1) := by decide +kernel
theorem d_L_ends_8 : decode method_12_code 8 = .ok (.lastore, 1) := by decide +kernel
theorem d_L_ends_9 : decode method_12_code 9 = .ok (.goto 6, 3) := by decide +kernel
theorem d_L_ends_15 : decode method_12_code 15 = .ok (.iconst 0, 1) := by decide +kernel
theorem d_L_ends_16 : decode method_12_code 16 = .ok (.ireturn, 1) := by decide +kernel
theorem d_L_takes_0 : decode method_13_code 0 = .ok (.aload_n 2, 1) := by decide +kernel
theorem d_L_takes_1 : decode method_13_code 1 = .ok (.iconst 0, 1) := by decide +kernel
theorem d_L_takes_2 : decode method_13_code 2 = .ok (.aload_n 0, 1) := by decide +kernel
theorem d_L_takes_3 : decode method_13_code 3 = .ok (.iload_n 1, 1) := by decide +kernel
theorem k_1146 : Cond.code ⟨"PinchedBill", "takes", "(I)I"⟩ prog_1_method_20_code 3 (some .int) ∈ gd_tbl := gd_in 1146 (by decide +kernel) (by decide +kernel)
theorem k_1143 : Cond.methodLink "PinchedBillLaw" 47 ⟨"PinchedBill", "takes", "(I)I"⟩ ∈ gd_tbl := gd_in 1143 (by decide +kernel) (by decide +kernel)
theorem k_1144 : Cond.instanceMethod ⟨"PinchedBill", "takes", "(I)I"⟩ ∈ gd_tbl := gd_in 1144 (by decide +kernel) (by decide +kernel)
theorem k_1145 : Cond.selects "PinchedBill" ⟨"PinchedBill", "takes", "(I)I"⟩ ⟨"PinchedBill", "takes", "(I)I"⟩ ∈ gd_tbl := gd_in 1145 (by decide +kernel) (by decide +kernel)
theorem kV_PinchedBillLaw_47 : kV "PinchedBillLaw" 47 ⟨"PinchedBill", "takes", "(I)I"⟩ prog_1_method_20_code 3 (some .int) 1 := ⟨k_1143, k_1144, k_1145, k_117, k_1146, by decide, by decide, by decide +kernel⟩
theorem d_L_takes_4 : decode method_13_code 4 = .ok (.invokevirtual 47, 3) := by decide +kernel
theorem d_L_takes_12 : decode method_13_code 12 = .ok (.astore_n 3, 1) := by decide +kernel
theorem d_L_takes_13 : decode method_13_code 13 = .ok (.iconst 1, 1) := by decide +kernel
theorem d_L_takes_14 : decode method_13_code 14 = .ok (.ireturn, 1) := by decide +kernel
theorem d_L_takes_7 : decode method_13_code 7 = .ok (.i2l, 1) := by decide +kernel
theorem d_L_takes_8 : decode method_13_code 8 = .ok (.lastore, 1) := by decide +kernel
theorem d_L_takes_9 : decode method_13_code 9 = .ok (.goto 6, 3) := by decide +kernel
theorem d_L_takes_15 : decode method_13_code 15 = .ok (.iconst 0, 1) := by decide +kernel
theorem d_L_takes_16 : decode method_13_code 16 = .ok (.ireturn, 1) := by decide +kernel
theorem d_L_goes_0 : decode method_14_code 0 = .ok (.aload_n 3, 1) := by decide +kernel
theorem d_L_goes_1 : decode method_14_code 1 = .ok (.iconst 0, 1) := by decide +kernel
theorem d_L_goes_2 : decode method_14_code 2 = .ok (.aload_n 0, 1) := by decide +kernel
theorem d_L_goes_3 : decode method_14_code 3 = .ok (.iload_n 1, 1) := by decide +kernel
theorem d_L_goes_4 : decode method_14_code 4 = .ok (.iload_n 2, 1) := by decide +kernel
theorem k_1153 : Cond.code ⟨"PinchedBill", "goes", "(II)I"⟩ prog_1_method_21_code 3 (some .int) ∈ gd_tbl := gd_in 1153 (by decide +kernel) (by decide +kernel)
theorem k_1150 : Cond.methodLink "PinchedBillLaw" 50 ⟨"PinchedBill", "goes", "(II)I"⟩ ∈ gd_tbl := gd_in 1150 (by decide +kernel) (by decide +kernel)
theorem k_1151 : Cond.instanceMethod ⟨"PinchedBill", "goes", "(II)I"⟩ ∈ gd_tbl := gd_in 1151 (by decide +kernel) (by decide +kernel)
theorem k_1152 : Cond.selects "PinchedBill" ⟨"PinchedBill", "goes", "(II)I"⟩ ⟨"PinchedBill", "goes", "(II)I"⟩ ∈ gd_tbl := gd_in 1152 (by decide +kernel) (by decide +kernel)
theorem kV_PinchedBillLaw_50 : kV "PinchedBillLaw" 50 ⟨"PinchedBill", "goes", "(II)I"⟩ prog_1_method_21_code 3 (some .int) 2 := ⟨k_1150, k_1151, k_1152, k_117, k_1153, by decide, by decide, by decide +kernel⟩
theorem d_L_goes_5 : decode method_14_code 5 = .ok (.invokevirtual 50, 3) := by decide +kernel
theorem d_L_goes_13 : decode method_14_code 13 = .ok (.astore 4, 2) := by decide +kernel
theorem d_L_goes_15 : decode method_14_code 15 = .ok (.iconst 1, 1) := by decide +kernel
theorem d_L_goes_16 : decode method_14_code 16 = .ok (.ireturn, 1) := by decide +kernel
theorem d_L_goes_8 : decode method_14_code 8 = .ok (.i2l, 1) := by decide +kernel
theorem d_L_goes_9 : decode method_14_code 9 = .ok (.lastore, 1) := by decide +kernel
theorem d_L_goes_10 : decode method_14_code 10 = .ok (.goto 7, 3) := by decide +kernel
theorem d_L_goes_17 : decode method_14_code 17 = .ok (.iconst 0, 1) := by decide +kernel
theorem d_L_goes_18 : decode method_14_code 18 = .ok (.ireturn, 1) := by decide +kernel
theorem d_L_ring_0 : decode method_15_code 0 = .ok (.aload_n 3, 1) := by decide +kernel
theorem d_L_ring_1 : decode method_15_code 1 = .ok (.iconst 0, 1) := by decide +kernel
theorem d_L_ring_2 : decode method_15_code 2 = .ok (.aload_n 0, 1) := by decide +kernel
theorem d_L_ring_3 : decode method_15_code 3 = .ok (.iload_n 1, 1) := by decide +kernel
theorem d_L_ring_4 : decode method_15_code 4 = .ok (.iload_n 2, 1) := by decide +kernel
theorem k_1165 : Cond.code ⟨"PinchedBill", "ring", "(II)I"⟩ prog_1_method_22_code 6 (some .int) ∈ gd_tbl := gd_in 1165 (by decide +kernel) (by decide +kernel)
theorem k_1162 : Cond.methodLink "PinchedBillLaw" 53 ⟨"PinchedBill", "ring", "(II)I"⟩ ∈ gd_tbl := gd_in 1162 (by decide +kernel) (by decide +kernel)
theorem k_1163 : Cond.instanceMethod ⟨"PinchedBill", "ring", "(II)I"⟩ ∈ gd_tbl := gd_in 1163 (by decide +kernel) (by decide +kernel)
theorem k_1164 : Cond.selects "PinchedBill" ⟨"PinchedBill", "ring", "(II)I"⟩ ⟨"PinchedBill", "ring", "(II)I"⟩ ∈ gd_tbl := gd_in 1164 (by decide +kernel) (by decide +kernel)
theorem kV_PinchedBillLaw_53 : kV "PinchedBillLaw" 53 ⟨"PinchedBill", "ring", "(II)I"⟩ prog_1_method_22_code 6 (some .int) 2 := ⟨k_1162, k_1163, k_1164, k_117, k_1165, by decide, by decide, by decide +kernel⟩
theorem d_L_ring_5 : decode method_15_code 5 = .ok (.invokevirtual 53, 3) := by decide +kernel
theorem d_L_ring_13 : decode method_15_code 13 = .ok (.astore 4, 2) := by decide +kernel
theorem d_L_ring_15 : decode method_15_code 15 = .ok (.iconst 1, 1) := by decide +kernel
theorem d_L_ring_16 : decode method_15_code 16 = .ok (.ireturn, 1) := by decide +kernel
theorem d_L_ring_8 : decode method_15_code 8 = .ok (.i2l, 1) := by decide +kernel
theorem d_L_ring_9 : decode method_15_code 9 = .ok (.lastore, 1) := by decide +kernel
theorem d_L_ring_10 : decode method_15_code 10 = .ok (.goto 7, 3) := by decide +kernel
theorem d_L_ring_17 : decode method_15_code 17 = .ok (.iconst 0, 1) := by decide +kernel
theorem d_L_ring_18 : decode method_15_code 18 = .ok (.ireturn, 1) := by decide +kernel
theorem d_L_law_0 : decode method_16_code 0 = .ok (.aload_n 2, 1) := by decide +kernel
theorem d_L_law_1 : decode method_16_code 1 = .ok (.iconst 0, 1) := by decide +kernel
theorem d_L_law_2 : decode method_16_code 2 = .ok (.aload_n 0, 1) := by decide +kernel
theorem d_L_law_3 : decode method_16_code 3 = .ok (.iload_n 1, 1) := by decide +kernel
theorem k_1172 : Cond.code ⟨"PinchedBill", "law", "(I)I"⟩ prog_1_method_24_code 3 (some .int) ∈ gd_tbl := gd_in 1172 (by decide +kernel) (by decide +kernel)
theorem k_1169 : Cond.methodLink "PinchedBillLaw" 56 ⟨"PinchedBill", "law", "(I)I"⟩ ∈ gd_tbl := gd_in 1169 (by decide +kernel) (by decide +kernel)
theorem k_1170 : Cond.instanceMethod ⟨"PinchedBill", "law", "(I)I"⟩ ∈ gd_tbl := gd_in 1170 (by decide +kernel) (by decide +kernel)
theorem k_1171 : Cond.selects "PinchedBill" ⟨"PinchedBill", "law", "(I)I"⟩ ⟨"PinchedBill", "law", "(I)I"⟩ ∈ gd_tbl := gd_in 1171 (by decide +kernel) (by decide +kernel)
theorem kV_PinchedBillLaw_56 : kV "PinchedBillLaw" 56 ⟨"PinchedBill", "law", "(I)I"⟩ prog_1_method_24_code 3 (some .int) 1 := ⟨k_1169, k_1170, k_1171, k_117, k_1172, by decide, by decide, by decide +kernel⟩
theorem d_L_law_4 : decode method_16_code 4 = .ok (.invokevirtual 56, 3) := by decide +kernel
theorem d_L_law_12 : decode method_16_code 12 = .ok (.astore_n 3, 1) := by decide +kernel
theorem d_L_law_13 : decode method_16_code 13 = .ok (.iconst 1, 1) := by decide +kernel
theorem d_L_law_14 : decode method_16_code 14 = .ok (.ireturn, 1) := by decide +kernel
theorem d_L_law_7 : decode method_16_code 7 = .ok (.i2l, 1) := by decide +kernel
theorem d_L_law_8 : decode method_16_code 8 = .ok (.lastore, 1) := by decide +kernel
theorem d_L_law_9 : decode method_16_code 9 = .ok (.goto 6, 3) := by decide +kernel
theorem d_L_law_15 : decode method_16_code 15 = .ok (.iconst 0, 1) := by decide +kernel
theorem d_L_law_16 : decode method_16_code 16 = .ok (.ireturn, 1) := by decide +kernel
theorem d_L_into_0 : decode method_17_code 0 = .ok (.aload_n 2, 1) := by decide +kernel
theorem d_L_into_1 : decode method_17_code 1 = .ok (.iconst 0, 1) := by decide +kernel
theorem d_L_into_2 : decode method_17_code 2 = .ok (.aload_n 0, 1) := by decide +kernel
theorem d_L_into_3 : decode method_17_code 3 = .ok (.iload_n 1, 1) := by decide +kernel
theorem k_1187 : Cond.code ⟨"PinchedBill", "into", "(I)I"⟩ prog_1_method_25_code 2 (some .int) ∈ gd_tbl := gd_in 1187 (by decide +kernel) (by decide +kernel)
theorem k_1184 : Cond.methodLink "PinchedBillLaw" 59 ⟨"PinchedBill", "into", "(I)I"⟩ ∈ gd_tbl := gd_in 1184 (by decide +kernel) (by decide +kernel)
theorem k_1185 : Cond.instanceMethod ⟨"PinchedBill", "into", "(I)I"⟩ ∈ gd_tbl := gd_in 1185 (by decide +kernel) (by decide +kernel)
theorem k_1186 : Cond.selects "PinchedBill" ⟨"PinchedBill", "into", "(I)I"⟩ ⟨"PinchedBill", "into", "(I)I"⟩ ∈ gd_tbl := gd_in 1186 (by decide +kernel) (by decide +kernel)
theorem kV_PinchedBillLaw_59 : kV "PinchedBillLaw" 59 ⟨"PinchedBill", "into", "(I)I"⟩ prog_1_method_25_code 2 (some .int) 1 := ⟨k_1184, k_1185, k_1186, k_117, k_1187, by decide, by decide, by decide +kernel⟩
theorem d_L_into_4 : decode method_17_code 4 = .ok (.invokevirtual 59, 3) := by decide +kernel
theorem d_L_into_12 : decode method_17_code 12 = .ok (.astore_n 3, 1) := by decide +kernel
theorem d_L_into_13 : decode method_17_code 13 = .ok (.iconst 1, 1) := by decide +kernel
theorem d_L_into_14 : decode method_17_code 14 = .ok (.ireturn, 1) := by decide +kernel
theorem d_L_into_7 : decode method_17_code 7 = .ok (.i2l, 1) := by decide +kernel
theorem d_L_into_8 : decode method_17_code 8 = .ok (.lastore, 1) := by decide +kernel
theorem d_L_into_9 : decode method_17_code 9 = .ok (.goto 6, 3) := by decide +kernel
theorem d_L_into_15 : decode method_17_code 15 = .ok (.iconst 0, 1) := by decide +kernel
theorem d_L_into_16 : decode method_17_code 16 = .ok (.ireturn, 1) := by decide +kernel
theorem d_L_nearest_0 : decode method_18_code 0 = .ok (.aload_n 2, 1) := by decide +kernel
theorem d_L_nearest_1 : decode method_18_code 1 = .ok (.iconst 0, 1) := by decide +kernel
theorem d_L_nearest_2 : decode method_18_code 2 = .ok (.aload_n 0, 1) := by decide +kernel
theorem d_L_nearest_3 : decode method_18_code 3 = .ok (.iload_n 1, 1) := by decide +kernel
theorem k_1194 : Cond.code ⟨"PinchedBill", "nearest", "(I)I"⟩ prog_1_method_28_code 8 (some .int) ∈ gd_tbl := gd_in 1194 (by decide +kernel) (by decide +kernel)
theorem k_1191 : Cond.methodLink "PinchedBillLaw" 62 ⟨"PinchedBill", "nearest", "(I)I"⟩ ∈ gd_tbl := gd_in 1191 (by decide +kernel) (by decide +kernel)
theorem k_1192 : Cond.instanceMethod ⟨"PinchedBill", "nearest", "(I)I"⟩ ∈ gd_tbl := gd_in 1192 (by decide +kernel) (by decide +kernel)
theorem k_1193 : Cond.selects "PinchedBill" ⟨"PinchedBill", "nearest", "(I)I"⟩ ⟨"PinchedBill", "nearest", "(I)I"⟩ ∈ gd_tbl := gd_in 1193 (by decide +kernel) (by decide +kernel)
theorem kV_PinchedBillLaw_62 : kV "PinchedBillLaw" 62 ⟨"PinchedBill", "nearest", "(I)I"⟩ prog_1_method_28_code 8 (some .int) 1 := ⟨k_1191, k_1192, k_1193, k_117, k_1194, by decide, by decide, by decide +kernel⟩
theorem d_L_nearest_4 : decode method_18_code 4 = .ok (.invokevirtual 62, 3) := by decide +kernel
theorem d_L_nearest_12 : decode method_18_code 12 = .ok (.astore_n 3, 1) := by decide +kernel
theorem d_L_nearest_13 : decode method_18_code 13 = .ok (.iconst 1, 1) := by decide +kernel
theorem d_L_nearest_14 : decode method_18_code 14 = .ok (.ireturn, 1) := by decide +kernel
theorem d_L_nearest_7 : decode method_18_code 7 = .ok (.i2l, 1) := by decide +kernel
theorem d_L_nearest_8 : decode method_18_code 8 = .ok (.lastore, 1) := by decide +kernel
theorem d_L_nearest_9 : decode method_18_code 9 = .ok (.goto 6, 3) := by decide +kernel
theorem d_L_nearest_15 : decode method_18_code 15 = .ok (.iconst 0, 1) := by decide +kernel
theorem d_L_nearest_16 : decode method_18_code 16 = .ok (.ireturn, 1) := by decide +kernel
theorem d_L_seats_0 : decode method_19_code 0 = .ok (.aload 4, 2) := by decide +kernel
theorem d_L_seats_2 : decode method_19_code 2 = .ok (.iconst 0, 1) := by decide +kernel
theorem d_L_seats_3 : decode method_19_code 3 = .ok (.aload_n 0, 1) := by decide +kernel
theorem d_L_seats_4 : decode method_19_code 4 = .ok (.iload_n 1, 1) := by decide +kernel
theorem d_L_seats_5 : decode method_19_code 5 = .ok (.iload_n 2, 1) := by decide +kernel
theorem d_L_seats_6 : decode method_19_code 6 = .ok (.iload_n 3, 1) := by decide +kernel
theorem k_1208 : Cond.code ⟨"PinchedBill", "seats", "(III)I"⟩ prog_1_method_29_code 5 (some .int) ∈ gd_tbl := gd_in 1208 (by decide +kernel) (by decide +kernel)
theorem k_1205 : Cond.methodLink "PinchedBillLaw" 65 ⟨"PinchedBill", "seats", "(III)I"⟩ ∈ gd_tbl := gd_in 1205 (by decide +kernel) (by decide +kernel)
theorem k_1206 : Cond.instanceMethod ⟨"PinchedBill", "seats", "(III)I"⟩ ∈ gd_tbl := gd_in 1206 (by decide +kernel) (by decide +kernel)
theorem k_1207 : Cond.selects "PinchedBill" ⟨"PinchedBill", "seats", "(III)I"⟩ ⟨"PinchedBill", "seats", "(III)I"⟩ ∈ gd_tbl := gd_in 1207 (by decide +kernel) (by decide +kernel)
theorem kV_PinchedBillLaw_65 : kV "PinchedBillLaw" 65 ⟨"PinchedBill", "seats", "(III)I"⟩ prog_1_method_29_code 5 (some .int) 3 := ⟨k_1205, k_1206, k_1207, k_117, k_1208, by decide, by decide, by decide +kernel⟩
theorem d_L_seats_7 : decode method_19_code 7 = .ok (.invokevirtual 65, 3) := by decide +kernel
theorem d_L_seats_15 : decode method_19_code 15 = .ok (.astore 5, 2) := by decide +kernel
theorem d_L_seats_17 : decode method_19_code 17 = .ok (.iconst 1, 1) := by decide +kernel
theorem d_L_seats_18 : decode method_19_code 18 = .ok (.ireturn, 1) := by decide +kernel
theorem d_L_seats_10 : decode method_19_code 10 = .ok (.i2l, 1) := by decide +kernel
theorem d_L_seats_11 : decode method_19_code 11 = .ok (.lastore, 1) := by decide +kernel
theorem d_L_seats_12 : decode method_19_code 12 = .ok (.goto 7, 3) := by decide +kernel
theorem d_L_seats_19 : decode method_19_code 19 = .ok (.iconst 0, 1) := by decide +kernel
theorem d_L_seats_20 : decode method_19_code 20 = .ok (.ireturn, 1) := by decide +kernel
theorem d_L_hire_0 : decode method_20_code 0 = .ok (.aload_n 2, 1) := by decide +kernel
theorem d_L_hire_1 : decode method_20_code 1 = .ok (.iconst 0, 1) := by decide +kernel
theorem d_L_hire_2 : decode method_20_code 2 = .ok (.aload_n 0, 1) := by decide +kernel
theorem d_L_hire_3 : decode method_20_code 3 = .ok (.iload_n 1, 1) := by decide +kernel
theorem k_1224 : Cond.code ⟨"PinchedBill", "hire", "(I)I"⟩ prog_1_method_30_code 5 (some .int) ∈ gd_tbl := gd_in 1224 (by decide +kernel) (by decide +kernel)
theorem k_1221 : Cond.methodLink "PinchedBillLaw" 69 ⟨"PinchedBill", "hire", "(I)I"⟩ ∈ gd_tbl := gd_in 1221 (by decide +kernel) (by decide +kernel)
theorem k_1222 : Cond.instanceMethod ⟨"PinchedBill", "hire", "(I)I"⟩ ∈ gd_tbl := gd_in 1222 (by decide +kernel) (by decide +kernel)
theorem k_1223 : Cond.selects "PinchedBill" ⟨"PinchedBill", "hire", "(I)I"⟩ ⟨"PinchedBill", "hire", "(I)I"⟩ ∈ gd_tbl := gd_in 1223 (by decide +kernel) (by decide +kernel)
theorem kV_PinchedBillLaw_69 : kV "PinchedBillLaw" 69 ⟨"PinchedBill", "hire", "(I)I"⟩ prog_1_method_30_code 5 (some .int) 1 := ⟨k_1221, k_1222, k_1223, k_117, k_1224, by decide, by decide, by decide +kernel⟩
theorem d_L_hire_4 : decode method_20_code 4 = .ok (.invokevirtual 69, 3) := by decide +kernel
theorem d_L_hire_12 : decode method_20_code 12 = .ok (.astore_n 3, 1) := by decide +kernel
theorem d_L_hire_13 : decode method_20_code 13 = .ok (.iconst 1, 1) := by decide +kernel
theorem d_L_hire_14 : decode method_20_code 14 = .ok (.ireturn, 1) := by decide +kernel
theorem d_L_hire_7 : decode method_20_code 7 = .ok (.i2l, 1) := by decide +kernel
theorem d_L_hire_8 : decode method_20_code 8 = .ok (.lastore, 1) := by decide +kernel
theorem d_L_hire_9 : decode method_20_code 9 = .ok (.goto 6, 3) := by decide +kernel
theorem d_L_hire_15 : decode method_20_code 15 = .ok (.iconst 0, 1) := by decide +kernel
theorem d_L_hire_16 : decode method_20_code 16 = .ok (.ireturn, 1) := by decide +kernel
theorem d_L_weighty_0 : decode method_21_code 0 = .ok (.aload_n 2, 1) := by decide +kernel
theorem d_L_weighty_1 : decode method_21_code 1 = .ok (.iconst 0, 1) := by decide +kernel
theorem d_L_weighty_2 : decode method_21_code 2 = .ok (.aload_n 0, 1) := by decide +kernel
theorem d_L_weighty_3 : decode method_21_code 3 = .ok (.iload_n 1, 1) := by decide +kernel
theorem k_1232 : Cond.code ⟨"PinchedBill", "weighty", "(I)I"⟩ prog_1_method_31_code 7 (some .int) ∈ gd_tbl := gd_in 1232 (by decide +kernel) (by decide +kernel)
theorem k_1229 : Cond.methodLink "PinchedBillLaw" 72 ⟨"PinchedBill", "weighty", "(I)I"⟩ ∈ gd_tbl := gd_in 1229 (by decide +kernel) (by decide +kernel)
theorem k_1230 : Cond.instanceMethod ⟨"PinchedBill", "weighty", "(I)I"⟩ ∈ gd_tbl := gd_in 1230 (by decide +kernel) (by decide +kernel)
theorem k_1231 : Cond.selects "PinchedBill" ⟨"PinchedBill", "weighty", "(I)I"⟩ ⟨"PinchedBill", "weighty", "(I)I"⟩ ∈ gd_tbl := gd_in 1231 (by decide +kernel) (by decide +kernel)
theorem kV_PinchedBillLaw_72 : kV "PinchedBillLaw" 72 ⟨"PinchedBill", "weighty", "(I)I"⟩ prog_1_method_31_code 7 (some .int) 1 := ⟨k_1229, k_1230, k_1231, k_117, k_1232, by decide, by decide, by decide +kernel⟩
theorem d_L_weighty_4 : decode method_21_code 4 = .ok (.invokevirtual 72, 3) := by decide +kernel
theorem d_L_weighty_12 : decode method_21_code 12 = .ok (.astore_n 3, 1) := by decide +kernel
theorem d_L_weighty_13 : decode method_21_code 13 = .ok (.iconst 1, 1) := by decide +kernel
theorem d_L_weighty_14 : decode method_21_code 14 = .ok (.ireturn, 1) := by decide +kernel
theorem d_L_weighty_7 : decode method_21_code 7 = .ok (.i2l, 1) := by decide +kernel
theorem d_L_weighty_8 : decode method_21_code 8 = .ok (.lastore, 1) := by decide +kernel
theorem d_L_weighty_9 : decode method_21_code 9 = .ok (.goto 6, 3) := by decide +kernel
theorem d_L_weighty_15 : decode method_21_code 15 = .ok (.iconst 0, 1) := by decide +kernel
theorem d_L_weighty_16 : decode method_21_code 16 = .ok (.ireturn, 1) := by decide +kernel
theorem d_L_share_0 : decode method_22_code 0 = .ok (.aload 4, 2) := by decide +kernel
theorem d_L_share_2 : decode method_22_code 2 = .ok (.iconst 0, 1) := by decide +kernel
theorem d_L_share_3 : decode method_22_code 3 = .ok (.aload_n 0, 1) := by decide +kernel
theorem d_L_share_4 : decode method_22_code 4 = .ok (.iload_n 1, 1) := by decide +kernel
theorem d_L_share_5 : decode method_22_code 5 = .ok (.iload_n 2, 1) := by decide +kernel
theorem d_L_share_6 : decode method_22_code 6 = .ok (.iload_n 3, 1) := by decide +kernel
theorem k_1239 : Cond.code ⟨"PinchedBill", "share", "(III)I"⟩ prog_1_method_32_code 5 (some .int) ∈ gd_tbl := gd_in 1239 (by decide +kernel) (by decide +kernel)
theorem k_1236 : Cond.methodLink "PinchedBillLaw" 75 ⟨"PinchedBill", "share", "(III)I"⟩ ∈ gd_tbl := gd_in 1236 (by decide +kernel) (by decide +kernel)
theorem k_1237 : Cond.instanceMethod ⟨"PinchedBill", "share", "(III)I"⟩ ∈ gd_tbl := gd_in 1237 (by decide +kernel) (by decide +kernel)
theorem k_1238 : Cond.selects "PinchedBill" ⟨"PinchedBill", "share", "(III)I"⟩ ⟨"PinchedBill", "share", "(III)I"⟩ ∈ gd_tbl := gd_in 1238 (by decide +kernel) (by decide +kernel)
theorem kV_PinchedBillLaw_75 : kV "PinchedBillLaw" 75 ⟨"PinchedBill", "share", "(III)I"⟩ prog_1_method_32_code 5 (some .int) 3 := ⟨k_1236, k_1237, k_1238, k_117, k_1239, by decide, by decide, by decide +kernel⟩
theorem d_L_share_7 : decode method_22_code 7 = .ok (.invokevirtual 75, 3) := by decide +kernel
theorem d_L_share_15 : decode method_22_code 15 = .ok (.astore 5, 2) := by decide +kernel
theorem d_L_share_17 : decode method_22_code 17 = .ok (.iconst 1, 1) := by decide +kernel
theorem d_L_share_18 : decode method_22_code 18 = .ok (.ireturn, 1) := by decide +kernel
theorem d_L_sorest_0 : decode method_23_code 0 = .ok (.aload_n 2, 1) := by decide +kernel
theorem d_L_sorest_1 : decode method_23_code 1 = .ok (.iconst 0, 1) := by decide +kernel
theorem d_L_sorest_2 : decode method_23_code 2 = .ok (.aload_n 0, 1) := by decide +kernel
theorem d_L_sorest_3 : decode method_23_code 3 = .ok (.iload_n 1, 1) := by decide +kernel
theorem k_1254 : Cond.code ⟨"PinchedBill", "sorest", "(I)I"⟩ prog_1_method_33_code 6 (some .int) ∈ gd_tbl := gd_in 1254 (by decide +kernel) (by decide +kernel)
theorem k_1251 : Cond.methodLink "PinchedBillLaw" 78 ⟨"PinchedBill", "sorest", "(I)I"⟩ ∈ gd_tbl := gd_in 1251 (by decide +kernel) (by decide +kernel)
theorem k_1252 : Cond.instanceMethod ⟨"PinchedBill", "sorest", "(I)I"⟩ ∈ gd_tbl := gd_in 1252 (by decide +kernel) (by decide +kernel)
theorem k_1253 : Cond.selects "PinchedBill" ⟨"PinchedBill", "sorest", "(I)I"⟩ ⟨"PinchedBill", "sorest", "(I)I"⟩ ∈ gd_tbl := gd_in 1253 (by decide +kernel) (by decide +kernel)
theorem kV_PinchedBillLaw_78 : kV "PinchedBillLaw" 78 ⟨"PinchedBill", "sorest", "(I)I"⟩ prog_1_method_33_code 6 (some .int) 1 := ⟨k_1251, k_1252, k_1253, k_117, k_1254, by decide, by decide, by decide +kernel⟩
theorem d_L_sorest_4 : decode method_23_code 4 = .ok (.invokevirtual 78, 3) := by decide +kernel
theorem d_L_sorest_12 : decode method_23_code 12 = .ok (.astore_n 3, 1) := by decide +kernel
theorem d_L_sorest_13 : decode method_23_code 13 = .ok (.iconst 1, 1) := by decide +kernel
theorem d_L_sorest_14 : decode method_23_code 14 = .ok (.ireturn, 1) := by decide +kernel
theorem d_L_sorest_7 : decode method_23_code 7 = .ok (.i2l, 1) := by decide +kernel
theorem d_L_sorest_8 : decode method_23_code 8 = .ok (.lastore, 1) := by decide +kernel
theorem d_L_sorest_9 : decode method_23_code 9 = .ok (.goto 6, 3) := by decide +kernel
theorem d_L_sorest_15 : decode method_23_code 15 = .ok (.iconst 0, 1) := by decide +kernel
theorem d_L_sorest_16 : decode method_23_code 16 = .ok (.ireturn, 1) := by decide +kernel
theorem d_L_before_0 : decode method_24_code 0 = .ok (.aload_n 3, 1) := by decide +kernel
theorem d_L_before_1 : decode method_24_code 1 = .ok (.iconst 0, 1) := by decide +kernel
theorem d_L_before_2 : decode method_24_code 2 = .ok (.aload_n 0, 1) := by decide +kernel
theorem d_L_before_3 : decode method_24_code 3 = .ok (.iload_n 1, 1) := by decide +kernel
theorem d_L_before_4 : decode method_24_code 4 = .ok (.iload_n 2, 1) := by decide +kernel
theorem k_1261 : Cond.code ⟨"PinchedBill", "before", "(II)I"⟩ prog_1_method_34_code 3 (some .int) ∈ gd_tbl := gd_in 1261 (by decide +kernel) (by decide +kernel)
theorem k_1258 : Cond.methodLink "PinchedBillLaw" 81 ⟨"PinchedBill", "before", "(II)I"⟩ ∈ gd_tbl := gd_in 1258 (by decide +kernel) (by decide +kernel)
theorem k_1259 : Cond.instanceMethod ⟨"PinchedBill", "before", "(II)I"⟩ ∈ gd_tbl := gd_in 1259 (by decide +kernel) (by decide +kernel)
theorem k_1260 : Cond.selects "PinchedBill" ⟨"PinchedBill", "before", "(II)I"⟩ ⟨"PinchedBill", "before", "(II)I"⟩ ∈ gd_tbl := gd_in 1260 (by decide +kernel) (by decide +kernel)
theorem kV_PinchedBillLaw_81 : kV "PinchedBillLaw" 81 ⟨"PinchedBill", "before", "(II)I"⟩ prog_1_method_34_code 3 (some .int) 2 := ⟨k_1258, k_1259, k_1260, k_117, k_1261, by decide, by decide, by decide +kernel⟩
theorem d_L_before_5 : decode method_24_code 5 = .ok (.invokevirtual 81, 3) := by decide +kernel
theorem d_L_before_13 : decode method_24_code 13 = .ok (.astore 4, 2) := by decide +kernel
theorem d_L_before_15 : decode method_24_code 15 = .ok (.iconst 1, 1) := by decide +kernel
theorem d_L_before_16 : decode method_24_code 16 = .ok (.ireturn, 1) := by decide +kernel
theorem d_L_before_8 : decode method_24_code 8 = .ok (.i2l, 1) := by decide +kernel
theorem d_L_before_9 : decode method_24_code 9 = .ok (.lastore, 1) := by decide +kernel
theorem d_L_before_10 : decode method_24_code 10 = .ok (.goto 7, 3) := by decide +kernel
theorem d_L_before_17 : decode method_24_code 17 = .ok (.iconst 0, 1) := by decide +kernel
theorem d_L_before_18 : decode method_24_code 18 = .ok (.ireturn, 1) := by decide +kernel
theorem d_L_beforeAt_0 : decode method_25_code 0 = .ok (.aload 4, 2) := by decide +kernel
theorem d_L_beforeAt_2 : decode method_25_code 2 = .ok (.iconst 0, 1) := by decide +kernel
theorem d_L_beforeAt_3 : decode method_25_code 3 = .ok (.aload_n 0, 1) := by decide +kernel
theorem d_L_beforeAt_4 : decode method_25_code 4 = .ok (.iload_n 1, 1) := by decide +kernel
theorem d_L_beforeAt_5 : decode method_25_code 5 = .ok (.iload_n 2, 1) := by decide +kernel
theorem d_L_beforeAt_6 : decode method_25_code 6 = .ok (.iload_n 3, 1) := by decide +kernel
theorem k_1273 : Cond.code ⟨"PinchedBill", "beforeAt", "(III)I"⟩ prog_1_method_35_code 5 (some .int) ∈ gd_tbl := gd_in 1273 (by decide +kernel) (by decide +kernel)
theorem k_1270 : Cond.methodLink "PinchedBillLaw" 84 ⟨"PinchedBill", "beforeAt", "(III)I"⟩ ∈ gd_tbl := gd_in 1270 (by decide +kernel) (by decide +kernel)
theorem k_1271 : Cond.instanceMethod ⟨"PinchedBill", "beforeAt", "(III)I"⟩ ∈ gd_tbl := gd_in 1271 (by decide +kernel) (by decide +kernel)
theorem k_1272 : Cond.selects "PinchedBill" ⟨"PinchedBill", "beforeAt", "(III)I"⟩ ⟨"PinchedBill", "beforeAt", "(III)I"⟩ ∈ gd_tbl := gd_in 1272 (by decide +kernel) (by decide +kernel)
theorem kV_PinchedBillLaw_84 : kV "PinchedBillLaw" 84 ⟨"PinchedBill", "beforeAt", "(III)I"⟩ prog_1_method_35_code 5 (some .int) 3 := ⟨k_1270, k_1271, k_1272, k_117, k_1273, by decide, by decide, by decide +kernel⟩
theorem d_L_beforeAt_7 : decode method_25_code 7 = .ok (.invokevirtual 84, 3) := by decide +kernel
theorem d_L_beforeAt_15 : decode method_25_code 15 = .ok (.astore 5, 2) := by decide +kernel
theorem d_L_beforeAt_17 : decode method_25_code 17 = .ok (.iconst 1, 1) := by decide +kernel
theorem d_L_beforeAt_18 : decode method_25_code 18 = .ok (.ireturn, 1) := by decide +kernel
theorem d_L_beforeAt_10 : decode method_25_code 10 = .ok (.i2l, 1) := by decide +kernel
theorem d_L_beforeAt_11 : decode method_25_code 11 = .ok (.lastore, 1) := by decide +kernel
theorem d_L_beforeAt_12 : decode method_25_code 12 = .ok (.goto 7, 3) := by decide +kernel
theorem d_L_beforeAt_19 : decode method_25_code 19 = .ok (.iconst 0, 1) := by decide +kernel
theorem d_L_beforeAt_20 : decode method_25_code 20 = .ok (.ireturn, 1) := by decide +kernel
theorem d_L_seen_0 : decode method_26_code 0 = .ok (.aload_n 2, 1) := by decide +kernel
theorem d_L_seen_1 : decode method_26_code 1 = .ok (.iconst 0, 1) := by decide +kernel
theorem d_L_seen_2 : decode method_26_code 2 = .ok (.aload_n 0, 1) := by decide +kernel
theorem d_L_seen_3 : decode method_26_code 3 = .ok (.iload_n 1, 1) := by decide +kernel
theorem k_1280 : Cond.code ⟨"PinchedBill", "seen", "(I)I"⟩ prog_1_method_36_code 2 (some .int) ∈ gd_tbl := gd_in 1280 (by decide +kernel) (by decide +kernel)
theorem k_1277 : Cond.methodLink "PinchedBillLaw" 87 ⟨"PinchedBill", "seen", "(I)I"⟩ ∈ gd_tbl := gd_in 1277 (by decide +kernel) (by decide +kernel)
theorem k_1278 : Cond.instanceMethod ⟨"PinchedBill", "seen", "(I)I"⟩ ∈ gd_tbl := gd_in 1278 (by decide +kernel) (by decide +kernel)
theorem k_1279 : Cond.selects "PinchedBill" ⟨"PinchedBill", "seen", "(I)I"⟩ ⟨"PinchedBill", "seen", "(I)I"⟩ ∈ gd_tbl := gd_in 1279 (by decide +kernel) (by decide +kernel)
theorem kV_PinchedBillLaw_87 : kV "PinchedBillLaw" 87 ⟨"PinchedBill", "seen", "(I)I"⟩ prog_1_method_36_code 2 (some .int) 1 := ⟨k_1277, k_1278, k_1279, k_117, k_1280, by decide, by decide, by decide +kernel⟩
theorem d_L_seen_4 : decode method_26_code 4 = .ok (.invokevirtual 87, 3) := by decide +kernel
theorem d_L_seen_12 : decode method_26_code 12 = .ok (.astore_n 3, 1) := by decide +kernel
theorem d_L_seen_13 : decode method_26_code 13 = .ok (.iconst 1, 1) := by decide +kernel
theorem d_L_seen_14 : decode method_26_code 14 = .ok (.ireturn, 1) := by decide +kernel
theorem d_L_seen_15 : decode method_26_code 15 = .ok (.astore_n 3, 1) := by decide +kernel
theorem d_L_seen_16 : decode method_26_code 16 = .ok (.iconst 2, 1) := by decide +kernel
theorem d_L_seen_17 : decode method_26_code 17 = .ok (.ireturn, 1) := by decide +kernel
theorem d_L_seenAt_0 : decode method_27_code 0 = .ok (.aload_n 3, 1) := by decide +kernel
theorem d_L_seenAt_1 : decode method_27_code 1 = .ok (.iconst 0, 1) := by decide +kernel
theorem d_L_seenAt_2 : decode method_27_code 2 = .ok (.aload_n 0, 1) := by decide +kernel
theorem d_L_seenAt_3 : decode method_27_code 3 = .ok (.iload_n 1, 1) := by decide +kernel
theorem d_L_seenAt_4 : decode method_27_code 4 = .ok (.iload_n 2, 1) := by decide +kernel
theorem k_1303 : Cond.code ⟨"PinchedBill", "seenAt", "(II)I"⟩ prog_1_method_37_code 5 (some .int) ∈ gd_tbl := gd_in 1303 (by decide +kernel) (by decide +kernel)
theorem k_1300 : Cond.methodLink "PinchedBillLaw" 90 ⟨"PinchedBill", "seenAt", "(II)I"⟩ ∈ gd_tbl := gd_in 1300 (by decide +kernel) (by decide +kernel)
theorem k_1301 : Cond.instanceMethod ⟨"PinchedBill", "seenAt", "(II)I"⟩ ∈ gd_tbl := gd_in 1301 (by decide +kernel) (by decide +kernel)
theorem k_1302 : Cond.selects "PinchedBill" ⟨"PinchedBill", "seenAt", "(II)I"⟩ ⟨"PinchedBill", "seenAt", "(II)I"⟩ ∈ gd_tbl := gd_in 1302 (by decide +kernel) (by decide +kernel)
theorem kV_PinchedBillLaw_90 : kV "PinchedBillLaw" 90 ⟨"PinchedBill", "seenAt", "(II)I"⟩ prog_1_method_37_code 5 (some .int) 2 := ⟨k_1300, k_1301, k_1302, k_117, k_1303, by decide, by decide, by decide +kernel⟩
theorem d_L_seenAt_5 : decode method_27_code 5 = .ok (.invokevirtual 90, 3) := by decide +kernel
theorem d_L_seenAt_13 : decode method_27_code 13 = .ok (.astore 4, 2) := by decide +kernel
theorem d_L_seenAt_15 : decode method_27_code 15 = .ok (.iconst 1, 1) := by decide +kernel
theorem d_L_seenAt_16 : decode method_27_code 16 = .ok (.ireturn, 1) := by decide +kernel
theorem d_L_seenAt_17 : decode method_27_code 17 = .ok (.astore 4, 2) := by decide +kernel
theorem d_L_seenAt_19 : decode method_27_code 19 = .ok (.iconst 2, 1) := by decide +kernel
theorem d_L_seenAt_20 : decode method_27_code 20 = .ok (.ireturn, 1) := by decide +kernel
theorem d_L_ask_0 : decode method_28_code 0 = .ok (.aload_n 2, 1) := by decide +kernel
theorem d_L_ask_1 : decode method_28_code 1 = .ok (.iconst 0, 1) := by decide +kernel
theorem d_L_ask_2 : decode method_28_code 2 = .ok (.aload_n 0, 1) := by decide +kernel
theorem d_L_ask_3 : decode method_28_code 3 = .ok (.iload_n 1, 1) := by decide +kernel
theorem k_1310 : Cond.code ⟨"PinchedBill", "ask", "(I)I"⟩ prog_1_method_38_code 8 (some .int) ∈ gd_tbl := gd_in 1310 (by decide +kernel) (by decide +kernel)
theorem k_1307 : Cond.methodLink "PinchedBillLaw" 93 ⟨"PinchedBill", "ask", "(I)I"⟩ ∈ gd_tbl := gd_in 1307 (by decide +kernel) (by decide +kernel)
theorem k_1308 : Cond.instanceMethod ⟨"PinchedBill", "ask", "(I)I"⟩ ∈ gd_tbl := gd_in 1308 (by decide +kernel) (by decide +kernel)
theorem k_1309 : Cond.selects "PinchedBill" ⟨"PinchedBill", "ask", "(I)I"⟩ ⟨"PinchedBill", "ask", "(I)I"⟩ ∈ gd_tbl := gd_in 1309 (by decide +kernel) (by decide +kernel)
theorem kV_PinchedBillLaw_93 : kV "PinchedBillLaw" 93 ⟨"PinchedBill", "ask", "(I)I"⟩ prog_1_method_38_code 8 (some .int) 1 := ⟨k_1307, k_1308, k_1309, k_117, k_1310, by decide, by decide, by decide +kernel⟩
theorem d_L_ask_4 : decode method_28_code 4 = .ok (.invokevirtual 93, 3) := by decide +kernel
theorem d_L_ask_12 : decode method_28_code 12 = .ok (.astore_n 3, 1) := by decide +kernel
theorem d_L_ask_13 : decode method_28_code 13 = .ok (.iconst 1, 1) := by decide +kernel
theorem d_L_ask_14 : decode method_28_code 14 = .ok (.ireturn, 1) := by decide +kernel
theorem d_L_ask_15 : decode method_28_code 15 = .ok (.astore_n 3, 1) := by decide +kernel
theorem d_L_ask_16 : decode method_28_code 16 = .ok (.iconst 2, 1) := by decide +kernel
theorem d_L_ask_17 : decode method_28_code 17 = .ok (.ireturn, 1) := by decide +kernel
theorem d_L_both_0 : decode method_29_code 0 = .ok (.aload_n 3, 1) := by decide +kernel
theorem d_L_both_1 : decode method_29_code 1 = .ok (.iconst 0, 1) := by decide +kernel
theorem d_L_both_2 : decode method_29_code 2 = .ok (.aload_n 0, 1) := by decide +kernel
theorem d_L_both_3 : decode method_29_code 3 = .ok (.iload_n 1, 1) := by decide +kernel
theorem d_L_both_4 : decode method_29_code 4 = .ok (.iload_n 2, 1) := by decide +kernel
theorem k_1323 : Cond.code ⟨"PinchedBill", "both", "(II)I"⟩ prog_1_method_39_code 5 (some .int) ∈ gd_tbl := gd_in 1323 (by decide +kernel) (by decide +kernel)
theorem k_1320 : Cond.methodLink "PinchedBillLaw" 96 ⟨"PinchedBill", "both", "(II)I"⟩ ∈ gd_tbl := gd_in 1320 (by decide +kernel) (by decide +kernel)
theorem k_1321 : Cond.instanceMethod ⟨"PinchedBill", "both", "(II)I"⟩ ∈ gd_tbl := gd_in 1321 (by decide +kernel) (by decide +kernel)
theorem k_1322 : Cond.selects "PinchedBill" ⟨"PinchedBill", "both", "(II)I"⟩ ⟨"PinchedBill", "both", "(II)I"⟩ ∈ gd_tbl := gd_in 1322 (by decide +kernel) (by decide +kernel)
theorem kV_PinchedBillLaw_96 : kV "PinchedBillLaw" 96 ⟨"PinchedBill", "both", "(II)I"⟩ prog_1_method_39_code 5 (some .int) 2 := ⟨k_1320, k_1321, k_1322, k_117, k_1323, by decide, by decide, by decide +kernel⟩
theorem d_L_both_5 : decode method_29_code 5 = .ok (.invokevirtual 96, 3) := by decide +kernel
theorem d_L_both_13 : decode method_29_code 13 = .ok (.astore 4, 2) := by decide +kernel
theorem d_L_both_15 : decode method_29_code 15 = .ok (.iconst 1, 1) := by decide +kernel
theorem d_L_both_16 : decode method_29_code 16 = .ok (.ireturn, 1) := by decide +kernel
theorem d_L_both_8 : decode method_29_code 8 = .ok (.i2l, 1) := by decide +kernel
theorem d_L_both_9 : decode method_29_code 9 = .ok (.lastore, 1) := by decide +kernel
theorem d_L_both_10 : decode method_29_code 10 = .ok (.goto 7, 3) := by decide +kernel
theorem d_L_both_17 : decode method_29_code 17 = .ok (.iconst 0, 1) := by decide +kernel
theorem d_L_both_18 : decode method_29_code 18 = .ok (.ireturn, 1) := by decide +kernel
theorem d_L_bothIn_0 : decode method_30_code 0 = .ok (.aload 5, 2) := by decide +kernel
theorem d_L_bothIn_2 : decode method_30_code 2 = .ok (.iconst 0, 1) := by decide +kernel
theorem d_L_bothIn_3 : decode method_30_code 3 = .ok (.aload_n 0, 1) := by decide +kernel
theorem d_L_bothIn_4 : decode method_30_code 4 = .ok (.iload_n 1, 1) := by decide +kernel
theorem d_L_bothIn_5 : decode method_30_code 5 = .ok (.iload_n 2, 1) := by decide +kernel
theorem d_L_bothIn_6 : decode method_30_code 6 = .ok (.iload_n 3, 1) := by decide +kernel
theorem d_L_bothIn_7 : decode method_30_code 7 = .ok (.iload 4, 2) := by decide +kernel
theorem k_1342 : Cond.code ⟨"PinchedBill", "bothIn", "(IIII)I"⟩ prog_1_method_40_code 7 (some .int) ∈ gd_tbl := gd_in 1342 (by decide +kernel) (by decide +kernel)
theorem k_1339 : Cond.methodLink "PinchedBillLaw" 99 ⟨"PinchedBill", "bothIn", "(IIII)I"⟩ ∈ gd_tbl := gd_in 1339 (by decide +kernel) (by decide +kernel)
theorem k_1340 : Cond.instanceMethod ⟨"PinchedBill", "bothIn", "(IIII)I"⟩ ∈ gd_tbl := gd_in 1340 (by decide +kernel) (by decide +kernel)
theorem k_1341 : Cond.selects "PinchedBill" ⟨"PinchedBill", "bothIn", "(IIII)I"⟩ ⟨"PinchedBill", "bothIn", "(IIII)I"⟩ ∈ gd_tbl := gd_in 1341 (by decide +kernel) (by decide +kernel)
theorem kV_PinchedBillLaw_99 : kV "PinchedBillLaw" 99 ⟨"PinchedBill", "bothIn", "(IIII)I"⟩ prog_1_method_40_code 7 (some .int) 4 := ⟨k_1339, k_1340, k_1341, k_117, k_1342, by decide, by decide, by decide +kernel⟩
theorem d_L_bothIn_9 : decode method_30_code 9 = .ok (.invokevirtual 99, 3) := by decide +kernel
theorem d_L_bothIn_17 : decode method_30_code 17 = .ok (.astore 6, 2) := by decide +kernel
theorem d_L_bothIn_19 : decode method_30_code 19 = .ok (.iconst 1, 1) := by decide +kernel
theorem d_L_bothIn_20 : decode method_30_code 20 = .ok (.ireturn, 1) := by decide +kernel
theorem d_L_bothIn_12 : decode method_30_code 12 = .ok (.i2l, 1) := by decide +kernel
theorem d_L_bothIn_13 : decode method_30_code 13 = .ok (.lastore, 1) := by decide +kernel
theorem d_L_bothIn_14 : decode method_30_code 14 = .ok (.goto 7, 3) := by decide +kernel
theorem d_L_bothIn_21 : decode method_30_code 21 = .ok (.iconst 0, 1) := by decide +kernel
theorem d_L_bothIn_22 : decode method_30_code 22 = .ok (.ireturn, 1) := by decide +kernel
theorem d_L_chance_0 : decode method_31_code 0 = .ok (.aload_n 3, 1) := by decide +kernel
theorem d_L_chance_1 : decode method_31_code 1 = .ok (.iconst 0, 1) := by decide +kernel
theorem d_L_chance_2 : decode method_31_code 2 = .ok (.aload_n 0, 1) := by decide +kernel
theorem d_L_chance_3 : decode method_31_code 3 = .ok (.iload_n 1, 1) := by decide +kernel
theorem d_L_chance_4 : decode method_31_code 4 = .ok (.iload_n 2, 1) := by decide +kernel
theorem k_1349 : Cond.code ⟨"PinchedBill", "chance", "(II)J"⟩ prog_1_method_41_code 9 (some .long) ∈ gd_tbl := gd_in 1349 (by decide +kernel) (by decide +kernel)
theorem k_1346 : Cond.methodLink "PinchedBillLaw" 103 ⟨"PinchedBill", "chance", "(II)J"⟩ ∈ gd_tbl := gd_in 1346 (by decide +kernel) (by decide +kernel)
theorem k_1347 : Cond.instanceMethod ⟨"PinchedBill", "chance", "(II)J"⟩ ∈ gd_tbl := gd_in 1347 (by decide +kernel) (by decide +kernel)
theorem k_1348 : Cond.selects "PinchedBill" ⟨"PinchedBill", "chance", "(II)J"⟩ ⟨"PinchedBill", "chance", "(II)J"⟩ ∈ gd_tbl := gd_in 1348 (by decide +kernel) (by decide +kernel)
theorem kV_PinchedBillLaw_103 : kV "PinchedBillLaw" 103 ⟨"PinchedBill", "chance", "(II)J"⟩ prog_1_method_41_code 9 (some .long) 2 := ⟨k_1346, k_1347, k_1348, k_117, k_1349, by decide, by decide, by decide +kernel⟩
theorem d_L_chance_5 : decode method_31_code 5 = .ok (.invokevirtual 103, 3) := by decide +kernel
theorem d_L_chance_12 : decode method_31_code 12 = .ok (.astore 4, 2) := by decide +kernel
theorem d_L_chance_14 : decode method_31_code 14 = .ok (.iconst 1, 1) := by decide +kernel
theorem d_L_chance_15 : decode method_31_code 15 = .ok (.ireturn, 1) := by decide +kernel
theorem d_L_chance_8 : decode method_31_code 8 = .ok (.lastore, 1) := by decide +kernel
theorem d_L_chance_9 : decode method_31_code 9 = .ok (.goto 7, 3) := by decide +kernel
theorem d_L_chance_16 : decode method_31_code 16 = .ok (.iconst 0, 1) := by decide +kernel
theorem d_L_chance_17 : decode method_31_code 17 = .ok (.ireturn, 1) := by decide +kernel
theorem d_L_away_0 : decode method_32_code 0 = .ok (.aload_n 2, 1) := by decide +kernel
theorem d_L_away_1 : decode method_32_code 1 = .ok (.iconst 0, 1) := by decide +kernel
theorem d_L_away_2 : decode method_32_code 2 = .ok (.aload_n 0, 1) := by decide +kernel
theorem d_L_away_3 : decode method_32_code 3 = .ok (.iload_n 1, 1) := by decide +kernel
theorem k_1373 : Cond.code ⟨"PinchedBill", "away", "(I)I"⟩ prog_1_method_42_code 9 (some .int) ∈ gd_tbl := gd_in 1373 (by decide +kernel) (by decide +kernel)
theorem k_1370 : Cond.methodLink "PinchedBillLaw" 107 ⟨"PinchedBill", "away", "(I)I"⟩ ∈ gd_tbl := gd_in 1370 (by decide +kernel) (by decide +kernel)
theorem k_1371 : Cond.instanceMethod ⟨"PinchedBill", "away", "(I)I"⟩ ∈ gd_tbl := gd_in 1371 (by decide +kernel) (by decide +kernel)
theorem k_1372 : Cond.selects "PinchedBill" ⟨"PinchedBill", "away", "(I)I"⟩ ⟨"PinchedBill", "away", "(I)I"⟩ ∈ gd_tbl := gd_in 1372 (by decide +kernel) (by decide +kernel)
theorem kV_PinchedBillLaw_107 : kV "PinchedBillLaw" 107 ⟨"PinchedBill", "away", "(I)I"⟩ prog_1_method_42_code 9 (some .int) 1 := ⟨k_1370, k_1371, k_1372, k_117, k_1373, by decide, by decide, by decide +kernel⟩
theorem d_L_away_4 : decode method_32_code 4 = .ok (.invokevirtual 107, 3) := by decide +kernel
theorem d_L_away_12 : decode method_32_code 12 = .ok (.astore_n 3, 1) := by decide +kernel
theorem d_L_away_13 : decode method_32_code 13 = .ok (.iconst 1, 1) := by decide +kernel
theorem d_L_away_14 : decode method_32_code 14 = .ok (.ireturn, 1) := by decide +kernel
theorem d_L_away_7 : decode method_32_code 7 = .ok (.i2l, 1) := by decide +kernel
theorem d_L_away_8 : decode method_32_code 8 = .ok (.lastore, 1) := by decide +kernel
theorem d_L_away_9 : decode method_32_code 9 = .ok (.goto 6, 3) := by decide +kernel
theorem d_L_away_15 : decode method_32_code 15 = .ok (.iconst 0, 1) := by decide +kernel
theorem d_L_away_16 : decode method_32_code 16 = .ok (.ireturn, 1) := by decide +kernel
theorem d_L_tray_0 : decode method_33_code 0 = .ok (.aload_n 0, 1) := by decide +kernel
theorem d_L_tray_1 : decode method_33_code 1 = .ok (.iload_n 1, 1) := by decide +kernel
theorem d_L_tray_2 : decode method_33_code 2 = .ok (.iload_n 2, 1) := by decide +kernel
theorem d_L_tray_3 : decode method_33_code 3 = .ok (.iload_n 3, 1) := by decide +kernel
theorem k_1380 : Cond.code ⟨"PinchedBill", "tray", "(III)V"⟩ prog_1_method_43_code 5 none ∈ gd_tbl := gd_in 1380 (by decide +kernel) (by decide +kernel)
theorem k_1377 : Cond.methodLink "PinchedBillLaw" 110 ⟨"PinchedBill", "tray", "(III)V"⟩ ∈ gd_tbl := gd_in 1377 (by decide +kernel) (by decide +kernel)
theorem k_1378 : Cond.instanceMethod ⟨"PinchedBill", "tray", "(III)V"⟩ ∈ gd_tbl := gd_in 1378 (by decide +kernel) (by decide +kernel)
theorem k_1379 : Cond.selects "PinchedBill" ⟨"PinchedBill", "tray", "(III)V"⟩ ⟨"PinchedBill", "tray", "(III)V"⟩ ∈ gd_tbl := gd_in 1379 (by decide +kernel) (by decide +kernel)
theorem kV_PinchedBillLaw_110 : kV "PinchedBillLaw" 110 ⟨"PinchedBill", "tray", "(III)V"⟩ prog_1_method_43_code 5 none 3 := ⟨k_1377, k_1378, k_1379, k_117, k_1380, by decide, by decide, by decide +kernel⟩
theorem d_L_tray_4 : decode method_33_code 4 = .ok (.invokevirtual 110, 3) := by decide +kernel
theorem d_L_tray_10 : decode method_33_code 10 = .ok (.astore 4, 2) := by decide +kernel
theorem d_L_tray_12 : decode method_33_code 12 = .ok (.iconst 1, 1) := by decide +kernel
theorem d_L_tray_13 : decode method_33_code 13 = .ok (.ireturn, 1) := by decide +kernel
theorem d_L_tray_14 : decode method_33_code 14 = .ok (.astore 4, 2) := by decide +kernel
theorem d_L_tray_16 : decode method_33_code 16 = .ok (.iconst 2, 1) := by decide +kernel
theorem d_L_tray_17 : decode method_33_code 17 = .ok (.ireturn, 1) := by decide +kernel
theorem d_L_tray_7 : decode method_33_code 7 = .ok (.goto 11, 3) := by decide +kernel
theorem d_L_tray_18 : decode method_33_code 18 = .ok (.iconst 0, 1) := by decide +kernel
theorem d_L_tray_19 : decode method_33_code 19 = .ok (.ireturn, 1) := by decide +kernel
theorem d_L_write_0 : decode method_34_code 0 = .ok (.aload 5, 2) := by decide +kernel
theorem d_L_write_2 : decode method_34_code 2 = .ok (.iconst 0, 1) := by decide +kernel
theorem d_L_write_3 : decode method_34_code 3 = .ok (.aload_n 0, 1) := by decide +kernel
theorem d_L_write_4 : decode method_34_code 4 = .ok (.iload_n 1, 1) := by decide +kernel
theorem d_L_write_5 : decode method_34_code 5 = .ok (.iload_n 2, 1) := by decide +kernel
theorem d_L_write_6 : decode method_34_code 6 = .ok (.lload_n 3, 1) := by decide +kernel
theorem k_1413 : Cond.code ⟨"PinchedBill", "write", "(IIJ)J"⟩ prog_1_method_44_code 6 (some .long) ∈ gd_tbl := gd_in 1413 (by decide +kernel) (by decide +kernel)
theorem k_1410 : Cond.methodLink "PinchedBillLaw" 114 ⟨"PinchedBill", "write", "(IIJ)J"⟩ ∈ gd_tbl := gd_in 1410 (by decide +kernel) (by decide +kernel)
theorem k_1411 : Cond.instanceMethod ⟨"PinchedBill", "write", "(IIJ)J"⟩ ∈ gd_tbl := gd_in 1411 (by decide +kernel) (by decide +kernel)
theorem k_1412 : Cond.selects "PinchedBill" ⟨"PinchedBill", "write", "(IIJ)J"⟩ ⟨"PinchedBill", "write", "(IIJ)J"⟩ ∈ gd_tbl := gd_in 1412 (by decide +kernel) (by decide +kernel)
theorem kV_PinchedBillLaw_114 : kV "PinchedBillLaw" 114 ⟨"PinchedBill", "write", "(IIJ)J"⟩ prog_1_method_44_code 6 (some .long) 3 := ⟨k_1410, k_1411, k_1412, k_117, k_1413, by decide, by decide, by decide +kernel⟩
theorem d_L_write_7 : decode method_34_code 7 = .ok (.invokevirtual 114, 3) := by decide +kernel
theorem d_L_write_14 : decode method_34_code 14 = .ok (.astore 6, 2) := by decide +kernel
theorem d_L_write_16 : decode method_34_code 16 = .ok (.iconst 1, 1) := by decide +kernel
theorem d_L_write_17 : decode method_34_code 17 = .ok (.ireturn, 1) := by decide +kernel
theorem d_L_write_18 : decode method_34_code 18 = .ok (.astore 6, 2) := by decide +kernel
theorem d_L_write_20 : decode method_34_code 20 = .ok (.iconst 2, 1) := by decide +kernel
theorem d_L_write_21 : decode method_34_code 21 = .ok (.ireturn, 1) := by decide +kernel
theorem d_L_copy_0 : decode method_35_code 0 = .ok (.aload_n 3, 1) := by decide +kernel
theorem d_L_copy_1 : decode method_35_code 1 = .ok (.iconst 0, 1) := by decide +kernel
theorem d_L_copy_2 : decode method_35_code 2 = .ok (.aload_n 0, 1) := by decide +kernel
theorem d_L_copy_3 : decode method_35_code 3 = .ok (.iload_n 1, 1) := by decide +kernel
theorem d_L_copy_4 : decode method_35_code 4 = .ok (.iload_n 2, 1) := by decide +kernel
theorem k_1444 : Cond.code ⟨"PinchedBill", "copy", "(II)I"⟩ prog_1_method_45_code 4 (some .int) ∈ gd_tbl := gd_in 1444 (by decide +kernel) (by decide +kernel)
theorem k_1441 : Cond.methodLink "PinchedBillLaw" 120 ⟨"PinchedBill", "copy", "(II)I"⟩ ∈ gd_tbl := gd_in 1441 (by decide +kernel) (by decide +kernel)
theorem k_1442 : Cond.instanceMethod ⟨"PinchedBill", "copy", "(II)I"⟩ ∈ gd_tbl := gd_in 1442 (by decide +kernel) (by decide +kernel)
theorem k_1443 : Cond.selects "PinchedBill" ⟨"PinchedBill", "copy", "(II)I"⟩ ⟨"PinchedBill", "copy", "(II)I"⟩ ∈ gd_tbl := gd_in 1443 (by decide +kernel) (by decide +kernel)
theorem kV_PinchedBillLaw_120 : kV "PinchedBillLaw" 120 ⟨"PinchedBill", "copy", "(II)I"⟩ prog_1_method_45_code 4 (some .int) 2 := ⟨k_1441, k_1442, k_1443, k_117, k_1444, by decide, by decide, by decide +kernel⟩
theorem d_L_copy_5 : decode method_35_code 5 = .ok (.invokevirtual 120, 3) := by decide +kernel
theorem d_L_copy_13 : decode method_35_code 13 = .ok (.astore 4, 2) := by decide +kernel
theorem d_L_copy_15 : decode method_35_code 15 = .ok (.iconst 1, 1) := by decide +kernel
theorem d_L_copy_16 : decode method_35_code 16 = .ok (.ireturn, 1) := by decide +kernel
theorem d_L_copy_17 : decode method_35_code 17 = .ok (.astore 4, 2) := by decide +kernel
theorem d_L_copy_19 : decode method_35_code 19 = .ok (.iconst 2, 1) := by decide +kernel
theorem d_L_copy_20 : decode method_35_code 20 = .ok (.ireturn, 1) := by decide +kernel
theorem d_L_image_0 : decode method_36_code 0 = .ok (.aload_n 0, 1) := by decide +kernel
theorem d_L_image_1 : decode method_36_code 1 = .ok (.iload_n 1, 1) := by decide +kernel
theorem k_1456 : Cond.code ⟨"PinchedBill", "image", "(I)V"⟩ prog_1_method_46_code 3 none ∈ gd_tbl := gd_in 1456 (by decide +kernel) (by decide +kernel)
theorem k_1453 : Cond.methodLink "PinchedBillLaw" 123 ⟨"PinchedBill", "image", "(I)V"⟩ ∈ gd_tbl := gd_in 1453 (by decide +kernel) (by decide +kernel)
theorem k_1454 : Cond.instanceMethod ⟨"PinchedBill", "image", "(I)V"⟩ ∈ gd_tbl := gd_in 1454 (by decide +kernel) (by decide +kernel)
theorem k_1455 : Cond.selects "PinchedBill" ⟨"PinchedBill", "image", "(I)V"⟩ ⟨"PinchedBill", "image", "(I)V"⟩ ∈ gd_tbl := gd_in 1455 (by decide +kernel) (by decide +kernel)
theorem kV_PinchedBillLaw_123 : kV "PinchedBillLaw" 123 ⟨"PinchedBill", "image", "(I)V"⟩ prog_1_method_46_code 3 none 1 := ⟨k_1453, k_1454, k_1455, k_117, k_1456, by decide, by decide, by decide +kernel⟩
theorem d_L_image_2 : decode method_36_code 2 = .ok (.invokevirtual 123, 3) := by decide +kernel
theorem d_L_image_8 : decode method_36_code 8 = .ok (.astore_n 2, 1) := by decide +kernel
theorem d_L_image_9 : decode method_36_code 9 = .ok (.iconst 1, 1) := by decide +kernel
theorem d_L_image_10 : decode method_36_code 10 = .ok (.ireturn, 1) := by decide +kernel
theorem d_L_image_5 : decode method_36_code 5 = .ok (.goto 6, 3) := by decide +kernel
theorem d_L_image_11 : decode method_36_code 11 = .ok (.iconst 0, 1) := by decide +kernel
theorem d_L_image_12 : decode method_36_code 12 = .ok (.ireturn, 1) := by decide +kernel
theorem d_L_restore_0 : decode method_37_code 0 = .ok (.aload_n 0, 1) := by decide +kernel
theorem d_L_restore_1 : decode method_37_code 1 = .ok (.iload_n 1, 1) := by decide +kernel
theorem k_1485 : Cond.code ⟨"PinchedBill", "restore", "(I)V"⟩ prog_1_method_47_code 3 none ∈ gd_tbl := gd_in 1485 (by decide +kernel) (by decide +kernel)
theorem k_1482 : Cond.methodLink "PinchedBillLaw" 127 ⟨"PinchedBill", "restore", "(I)V"⟩ ∈ gd_tbl := gd_in 1482 (by decide +kernel) (by decide +kernel)
theorem k_1483 : Cond.instanceMethod ⟨"PinchedBill", "restore", "(I)V"⟩ ∈ gd_tbl := gd_in 1483 (by decide +kernel) (by decide +kernel)
theorem k_1484 : Cond.selects "PinchedBill" ⟨"PinchedBill", "restore", "(I)V"⟩ ⟨"PinchedBill", "restore", "(I)V"⟩ ∈ gd_tbl := gd_in 1484 (by decide +kernel) (by decide +kernel)
theorem kV_PinchedBillLaw_127 : kV "PinchedBillLaw" 127 ⟨"PinchedBill", "restore", "(I)V"⟩ prog_1_method_47_code 3 none 1 := ⟨k_1482, k_1483, k_1484, k_117, k_1485, by decide, by decide, by decide +kernel⟩
theorem d_L_restore_2 : decode method_37_code 2 = .ok (.invokevirtual 127, 3) := by decide +kernel
theorem d_L_restore_8 : decode method_37_code 8 = .ok (.astore_n 2, 1) := by decide +kernel
theorem d_L_restore_9 : decode method_37_code 9 = .ok (.iconst 1, 1) := by decide +kernel
theorem d_L_restore_10 : decode method_37_code 10 = .ok (.ireturn, 1) := by decide +kernel
theorem d_L_restore_11 : decode method_37_code 11 = .ok (.astore_n 2, 1) := by decide +kernel
theorem d_L_restore_12 : decode method_37_code 12 = .ok (.iconst 2, 1) := by decide +kernel
theorem d_L_restore_13 : decode method_37_code 13 = .ok (.ireturn, 1) := by decide +kernel
/-- the contract of a body with handlers, that returns -/
def CW (l : Launch) (D : va_G) (ty : Nat → ClassId) (y : MethodName) (cc : ByteArray) (ml : Nat) (ret : Option FieldType) (hh : List (Nat × Nat × Nat × Nat)) (fr lo mc ms : Nat) (av : List Value) (ws : va_W) (Qf : QF) : Prop :=
  ∀ sz : Nat, vx_Met l y (.codeWith y cc ml ret hh :: gd_tbl) (rmF fr lo mc ms) (cPre D ty av sz ws) (Qf (va_A ws sz)) (XF (fun _ => False) (va_A ws sz)) mc ms (va_A ws sz)
theorem CW_of {l : Launch} {D : va_G} {ty : Nat → ClassId} {y : MethodName} {cc : ByteArray} {ml : Nat} {ret : Option FieldType} {hh : List (Nat × Nat × Nat × Nat)} {fr lo mc ms : Nat} {av : List Value} {ws : va_W} {Qf : QF} (hy : plainName y.cls = true)
    (body : ∀ (p : Program) (e : Env) (s : State) (m : MethodId) (below : List Frame) (meth : Method) (c : Code) (A : Nat → Prop), Cx p s m av.toArray meth c y.cls y.name cc ml ret D ty A → c.exceptionTable.toList = tableOf hh → va_P D vwCl ws s.heap → va_D A ws → va_S A s.heap s.heap [] →
      W p l e (rmF fr lo mc ms) s m av.toArray below meth c s.heap [] 0 0 (vx_MQ below (Qf A) (XF (fun _ => False) A) av.toArray s mc ms A) (entryFrame m av.toArray ml)) : CW l D ty y cc ml ret hh fr lo mc ms av ws Qf := by
  intro sz
  refine vx_ofWH (cc := cc) (maxL := ml) (ret := ret) (hh := hh) hy rfl ?_
  intro p e s m args below meth c s₁ B hml hv
  obtain ⟨rfl, hsz, hP, hK, hD0, hE, hZ⟩ := hv
  subst hsz
  have h0 := atoms_spec (ws := .codeWith y cc ml ret hh :: gd_tbl) B.pre
  exact body p e s m below meth c (va_A ws s.heap.size) ⟨⟨B.exec, B.bytes, hml, findClass_of_methodNamed B.named, fun w h => h0 w (List.mem_cons_of_mem _ h)⟩, B.returns, B.notSynchronized, (name_of_methodNamed B.named B.method).1, hK, hE, fun q h => Or.inr h, hZ⟩ (vx_table (x := y) B (h0 _ List.mem_cons_self)) hP hD0.self va_S.rf
def kW (own : String) (index : Nat) (y : MethodName) (bytes : ByteArray) (maxL : Nat) (ret : Option FieldType) (hh : List (Nat × Nat × Nat × Nat)) (n : Nat) : Prop :=
  Cond.methodLink own index y ∈ gd_tbl ∧ Cond.static y ∈ gd_tbl ∧ Cond.initialized y.cls ∈ gd_tbl ∧ Cond.codeWith y bytes maxL ret hh ∈ gd_tbl ∧ y.cls ≠ "java/lang/invoke/MethodHandle" ∧ y.cls ≠ "java/lang/invoke/VarHandle" ∧ (parseMethodDescriptor y.desc).map (fun d => d.parameters.length) = some n
section CATCH
variable {p : Program} {l : Launch} {e : Env} {R : Room} {s : State} {m : MethodId} {args : Array Value} {below : List Frame} {meth : Method} {c : Code} {H : Heap} {locs : List Loc} {cells slots : Nat} {Q : State → Prop}
variable {own nm : String} {cc : ByteArray} {ml : Nat} {ret ret0 : Option FieldType} {D : va_G} {ty : Nat → ClassId} {A : Nat → Prop} {pc : Nat} {ls : Array Slot} {rest st As : List Value} {ws wc wr : va_W} {a b : Nat} {isC isR : List Nat} {px : String → Prop} {mc ms fr lo index maxL n : Nat} {y : MethodName} {bytes : ByteArray} {hh : List (Nat × Nat × Nat × Nat)} {Qf : QF}
theorem runx_W (C : Cx p s m args meth c own nm cc ml ret0 D ty A) (hP : va_P D vwCl ws H) (hD : va_D A ws) (hS : va_S A s.heap H locs) (ct : Cut ws wc wr isC isR) (hM : CW l D ty y bytes maxL ret hh fr lo mc ms As wc Qf) (kw : kW own index y bytes maxL ret hh n)
    (hn : As.length = n) (hl : ls.size = ml) (hstack : st = As.reverse ++ rest) (hst : (rest.map fun v => v.category).sum ≤ 8) (hdg : decode cc pc = .ok (.invokestatic index, 3)) (hR : fr + 1 ≤ R.frames ∧ 8 + (maxL + 11) + lo ≤ R.locals ∧ cells + mc ≤ R.cells ∧ slots + ms ≤ R.slots) :
    vx_Run p l e R s m args below meth c H locs cells slots mc ms (F0 m pc ls st) rest (Qf (va_A wc H.size) As.toArray) (XF (fun _ => False) (va_A wc H.size)) (va_A wc H.size) := by
  have hpre := pre_of C hP hD hS ct As
  obtain ⟨⟨hx, hb, hml, hown, hts⟩, hr, hlocks, hnm9, hK, hE, hA, hZ⟩ := C
  obtain ⟨k1, k2, k4, k5, k6, k7, k8⟩ := kw
  have hg : GoodIn gd_tbl (va_wsS own index y (.codeWith y bytes maxL ret hh :: gd_tbl)) := fun w hw => by
    unfold va_wsS at hw
    rcases List.mem_append.mp hw with h | h
    · rcases List.mem_cons.mp h with rfl | h
      · exact gd_good (fun _ h => h) _ k1
      · rcases List.mem_cons.mp h with rfl | h
        · exact gd_good (fun _ h => h) _ k2
        · rcases List.mem_singleton.mp h with rfl
          exact gd_good (fun _ h => h) _ k4
    · rcases List.mem_cons.mp h with rfl | h
      · exact gd_good (fun _ h => h) _ k5
      · exact gd_good (fun _ h => h) _ h
  exact vx_runSX (Ts := gd_tbl) (own := own) (bytes := bytes) (maxL := maxL) (ret := ret) (cc := cc) (n := n) ⟨hx, hb, hml, hown, hts⟩ (hM H.size) (vx_cwSW (ws' := gd_tbl) n hts hg rfl rfl rfl ⟨k6, k7, k8⟩ ⟨hR.1, hR.2.1⟩) ⟨cPre_blind, hpre⟩ rfl hn hl hstack (lv_room hst) hdg hR.2.2
theorem contc_I {post : Int32 → va_W → Prop} {av : Array Value} (C : Cx p s m args meth c own nm cc ml ret0 D ty A) (hP : va_P D vwCl ws H) (hD : va_D A ws) (hS : va_S A s.heap H locs) (ct : Cut ws wc wr isC isR) (hr : vx_Run p l e R s m args below meth c H locs cells slots mc ms (F0 m pc ls st) rest (QI D ty post (va_A wc H.size) av) (XF px (va_A wc H.size)) (va_A wc H.size))
    (kx : ∀ (E : String) (ce : Cell) (q9 : Addr) (H1 : Heap) (locs1 : List Loc), px E → va_S A s.heap H1 locs1 → H1[q9]? = some ce → ce.vm = .none → s.vm.findClass E = some ce.cls → vx_W p l e R s m args below meth c H1 locs1 (cells + mc) (slots + ms) Q (F0 m pc ls rest) q9)
    (kk : ∀ (r : Int32) (w : va_W) (H1 : Heap) (locs1 : List Loc), post r w → va_P D vwCl (wr ++ w) H1 → va_D A (wr ++ w) → va_S A s.heap H1 locs1 → W p l e R s m args below meth c H1 locs1 (cells + mc) (slots + ms) Q (F0 m (pc + 3) ls (.int r :: rest))) : W p l e R s m args below meth c H locs cells slots Q (F0 m pc ls st) :=
  vx_calli hr hS (fun q _ h => free_of9 C hD hS ct q h) (free_of9 C hD hS ct) (fun q _ h => free_of9 C hD hS ct q h) (fun E ce q9 u t H1 locs1 ht hvm hu hB hz1 hk1 hS1 h1 h2 h3 => kx E ce q9 H1 locs1 hB hS1 h1 h2 h3) (fun r w t H1 locs1 ht hvm hw hB hz1 hk1 hS1 => by
    obtain ⟨h1, h2⟩ := back_of9 C hP hD hS ct ht hB hk1
    exact kk r w H1 locs1 hw h1 h2 hS1)
theorem contc_L {post : Int64 → va_W → Prop} {av : Array Value} (C : Cx p s m args meth c own nm cc ml ret0 D ty A) (hP : va_P D vwCl ws H) (hD : va_D A ws) (hS : va_S A s.heap H locs) (ct : Cut ws wc wr isC isR) (hr : vx_Run p l e R s m args below meth c H locs cells slots mc ms (F0 m pc ls st) rest (QL D ty post (va_A wc H.size) av) (XF px (va_A wc H.size)) (va_A wc H.size))
    (kx : ∀ (E : String) (ce : Cell) (q9 : Addr) (H1 : Heap) (locs1 : List Loc), px E → va_S A s.heap H1 locs1 → H1[q9]? = some ce → ce.vm = .none → s.vm.findClass E = some ce.cls → vx_W p l e R s m args below meth c H1 locs1 (cells + mc) (slots + ms) Q (F0 m pc ls rest) q9)
    (kk : ∀ (r : Int64) (w : va_W) (H1 : Heap) (locs1 : List Loc), post r w → va_P D vwCl (wr ++ w) H1 → va_D A (wr ++ w) → va_S A s.heap H1 locs1 → W p l e R s m args below meth c H1 locs1 (cells + mc) (slots + ms) Q (F0 m (pc + 3) ls (.long r :: rest))) : W p l e R s m args below meth c H locs cells slots Q (F0 m pc ls st) :=
  vx_calll hr hS (fun q _ h => free_of9 C hD hS ct q h) (free_of9 C hD hS ct) (fun q _ h => free_of9 C hD hS ct q h) (fun E ce q9 u t H1 locs1 ht hvm hu hB hz1 hk1 hS1 h1 h2 h3 => kx E ce q9 H1 locs1 hB hS1 h1 h2 h3) (fun r w t H1 locs1 ht hvm hw hB hz1 hk1 hS1 => by
    obtain ⟨h1, h2⟩ := back_of9 C hP hD hS ct ht hB hk1
    exact kk r w H1 locs1 hw h1 h2 hS1)
theorem contc_V {post : va_W → Prop} {av : Array Value} (C : Cx p s m args meth c own nm cc ml ret0 D ty A) (hP : va_P D vwCl ws H) (hD : va_D A ws) (hS : va_S A s.heap H locs) (ct : Cut ws wc wr isC isR) (hr : vx_Run p l e R s m args below meth c H locs cells slots mc ms (F0 m pc ls st) rest (QV D ty post (va_A wc H.size) av) (XF px (va_A wc H.size)) (va_A wc H.size))
    (kx : ∀ (E : String) (ce : Cell) (q9 : Addr) (H1 : Heap) (locs1 : List Loc), px E → va_S A s.heap H1 locs1 → H1[q9]? = some ce → ce.vm = .none → s.vm.findClass E = some ce.cls → vx_W p l e R s m args below meth c H1 locs1 (cells + mc) (slots + ms) Q (F0 m pc ls rest) q9)
    (kk : ∀ (w : va_W) (H1 : Heap) (locs1 : List Loc), post w → va_P D vwCl (wr ++ w) H1 → va_D A (wr ++ w) → va_S A s.heap H1 locs1 → W p l e R s m args below meth c H1 locs1 (cells + mc) (slots + ms) Q (F0 m (pc + 3) ls rest)) : W p l e R s m args below meth c H locs cells slots Q (F0 m pc ls st) :=
  vx_callv hr hS (fun q _ h => free_of9 C hD hS ct q h) (free_of9 C hD hS ct) (fun q _ h => free_of9 C hD hS ct q h) (fun E ce q9 u t H1 locs1 ht hvm hu hB hz1 hk1 hS1 h1 h2 h3 => kx E ce q9 H1 locs1 hB hS1 h1 h2 h3) (fun w t H1 locs1 ht hvm hw hB hz1 hk1 hS1 => by
    obtain ⟨h1, h2⟩ := back_of9 C hP hD hS ct ht hB hk1
    exact kk w H1 locs1 hw h1 h2 hS1)
theorem contc_N {av : Array Value} (C : Cx p s m args meth c own nm cc ml ret0 D ty A) (hD : va_D A ws) (hS : va_S A s.heap H locs) (ct : Cut ws wc wr isC isR) (hr : vx_Run p l e R s m args below meth c H locs cells slots mc ms (F0 m pc ls st) rest (QN (va_A wc H.size) av) (XF px (va_A wc H.size)) (va_A wc H.size))
    (kx : ∀ (E : String) (ce : Cell) (q9 : Addr) (H1 : Heap) (locs1 : List Loc), px E → va_S A s.heap H1 locs1 → H1[q9]? = some ce → ce.vm = .none → s.vm.findClass E = some ce.cls → vx_W p l e R s m args below meth c H1 locs1 (cells + mc) (slots + ms) Q (F0 m pc ls rest) q9) : W p l e R s m args below meth c H locs cells slots Q (F0 m pc ls st) := by
  intro T hT X
  rcases hr T hT X with ⟨v, st₀, t, T', L, h0, X', hL, e1, e2, hq, st⟩ | ⟨q, st₀, t, T', L, E, ce, h0, X', hL, e1, e2, ⟨u, hp, hb, hF⟩, hce, hcv, hcl, st⟩
  · exact hq.elim
  · obtain ⟨k1, k2, k3⟩ := vx_keep h0 e1 hS (fun q _ h => free_of9 C hD hS ct q h) (free_of9 C hD hS ct) hL hF
    obtain ⟨t2, a1, b1⟩ := kx E ce q T'.heap (locs ++ L) hb k3 (by rw [e1]; exact hce) hcv hcl T' rfl X'
    exact ⟨t2, st.trans a1, b1⟩
theorem no_pass {E own : String} (z : ExceptionTableEntry) (hz : z ∈ tableOf []) : covers z pc = false ∨ (z.catchType ≠ 0 ∧ ∃ nm : String, (Cond.classLink own z.catchType nm).before args s = true ∧ va_Nc E nm s) := by cases hz
theorem one_pass {E own nm : String} {x1 x2 x3 x4 : Nat} (h0 : x4 ≠ 0) (hl : (Cond.classLink own x4 nm).before args s = true) (hn : va_Nc E nm s) (z : ExceptionTableEntry) (hz : z ∈ tableOf [(x1, x2, x3, x4)]) : covers z pc = false ∨ (z.catchType ≠ 0 ∧ ∃ nm : String, (Cond.classLink own z.catchType nm).before args s = true ∧ va_Nc E nm s) := by
  obtain rfl : z = ⟨x1, x2, x3, x4⟩ := List.mem_singleton.mp hz
  exact Or.inr ⟨h0, nm, hl, hn⟩
end CATCH
theorem wg_le (a : Nat) : wg a ≤ 1 := by
  unfold wg
  split <;> omega
theorem winc_le (x : Int32) : winc x ≤ 1 := by
  unfold winc
  split
  · omega
  · split
    · exact wg_le _
    · omega
theorem wct_le (n : Nat) : ∀ x : Int32, wct n x ≤ n := by
  induction n with
  | zero => intro x; exact Nat.le_refl 0
  | succ n ih =>
    intro x
    rw [wct_s]
    have h1 := winc_le x
    have h2 := ih (wnx x)
    omega
theorem wct_bd {tm sd : Int32} (h : ¬ tm < 1 ∧ ¬ 30 < tm) : wct tm.toNatClampNeg sd < 31 := by
  obtain ⟨T, hT, -, rfl⟩ := tm_of h
  have h1 := wct_le (nI T).toNatClampNeg sd
  rw [nI_clamp (Nat.lt_trans hT (by decide))] at h1 ⊢
  omega
set_option maxHeartbeats 4000000 in
set_option maxRecDepth 100000 in
theorem w_house (l : Launch) (D : va_G) (ty : Nat → ClassId) (h0 : Nat) (rd : Nat) (ho : Nat) (nw : Nat) (tr : Nat) (ts : Nat) (im : Nat) (rh : Nat) (rt : Nat) (r1 : Nat) (r2 : Nat) (r3 : Nat) (n : Int32) (ou : Nat) (hl9 : l.stackTraces = false) : CW l D ty ⟨"PinchedBillLaw", "house", "(LPinchedBill;I[J)I"⟩ method_3_code 4 (some .int) [(0, 9, 12, 13)] 8 125 1 6 [.ref h0, .int n, .ref ou] [(h0, eO 8 [.ref rd, .ref ho, .ref nw, .ref tr, .ref ts, .ref im, .null]), (rd, eO 3 [.int 0, .int 0, .int (-1), .ref rh, .ref rt, .int 0, .int 0, .int 0, .int 0, .int 0, .int 0]), (rh, eO 0 [.int 0, .int 1, .int 0, .int 0, .int 0, .int 0, .int 0, .int 0, .int 0, .int 0, .ref r1, .ref r2, .ref r3]), (r1, eI (ty 0) 24 (fun _ => 0)), (r2, eI (ty 0) 8 (fun _ => 0)), (r3, eI (ty 0) 900 (fun _ => 0)), (rt, eI (ty 1) 900 (fun _ => 0)), (ou, eJ (ty 3) 1 (fun _ => 0))] (QI D ty (fun (r : Int32) (w : va_W) => (((¬ n < 0 ∧ ¬ 0 < n)) ∧ 0 = r ∧ w = [(ou, eJ (ty 3) 1 (vp_updL (fun _ => 0) 0 (-12)))]) ∨ ((¬ ((¬ n < 0 ∧ ¬ 0 < n))) ∧ 1 = r ∧ w = []))) := by
  refine CW_of (by decide) ?_
  intro p e s m below meth c A C hct hP hD hS
  obtain ⟨⟨hx, hb, hml, hown, hts⟩, hr, hlocks, hnm, hK, hE, hA, hZ⟩ := id C
  refine startW [.ref h0, .int n, .ref ou] 4 (nle rfl) (lv := [(0, .ref h0), (1, .int n), (2, .ref ou)]) rfl (fun ls hl => ?_)
  refine lv_aload_n hx hb d_L_house_0 rfl (lv_at hl 2 rfl) ?_
  refine lv_iconst (v := 0) hx hb d_L_house_1 (by decide) ?_
  refine lv_aload_n hx hb d_L_house_2 rfl (lv_at hl 0 rfl) ?_
  refine lv_iload_n hx hb d_L_house_3 rfl (lv_at hl 1 rfl) ?_
  have ct_1 : Cut [(h0, eO 8 [.ref rd, .ref ho, .ref nw, .ref tr, .ref ts, .ref im, .null]), (rd, eO 3 [.int 0, .int 0, .int (-1), .ref rh, .ref rt, .int 0, .int 0, .int 0, .int 0, .int 0, .int 0]), (rh, eO 0 [.int 0, .int 1, .int 0, .int 0, .int 0, .int 0, .int 0, .int 0, .int 0, .int 0, .ref r1, .ref r2, .ref r3]), (r1, eI (ty 0) 24 (fun _ => 0)), (r2, eI (ty 0) 8 (fun _ => 0)), (r3, eI (ty 0) 900 (fun _ => 0)), (rt, eI (ty 1) 900 (fun _ => 0)), (ou, eJ (ty 3) 1 (fun _ => 0))] [(h0, eO 8 [.ref rd, .ref ho, .ref nw, .ref tr, .ref ts, .ref im, .null]), (rd, eO 3 [.int 0, .int 0, .int (-1), .ref rh, .ref rt, .int 0, .int 0, .int 0, .int 0, .int 0, .int 0]), (rh, eO 0 [.int 0, .int 1, .int 0, .int 0, .int 0, .int 0, .int 0, .int 0, .int 0, .int 0, .ref r1, .ref r2, .ref r3]), (r1, eI (ty 0) 24 (fun _ => 0)), (r2, eI (ty 0) 8 (fun _ => 0)), (r3, eI (ty 0) 900 (fun _ => 0)), (rt, eI (ty 1) 900 (fun _ => 0))] [(ou, eJ (ty 3) 1 (fun _ => 0))] [0, 1, 2, 3, 4, 5, 6] [7] := ⟨rfl, rfl, rfl, rfl, by decide⟩
  refine contc_I C hP hD hS ct_1 (runx_V (As := [.int n]) (rest := [.int 0, .ref ou]) C hP hD hS ct_1 (p_house l D ty h0 rd ho nw tr ts im rh rt r1 r2 r3 n hl9) kV_PinchedBillLaw_7 0 rfl rfl rfl rfl hl.1 rfl (nle rfl) d_L_house_4 ⟨by decide, by decide, by decide, by decide⟩) (fun E ce q9 H locs hpx hS hce hcv hcl => ?_) (fun r9 w9 H locs hw9 hP hD hS => ?_)
  · obtain ⟨rfl, hx9⟩ := hpx
    refine vx_catch (own := "PinchedBillLaw") (name := "java/lang/IllegalArgumentException") hown (tableOf []) ⟨0, 9, 12, 13⟩ (tableOf []) (hct.trans rfl) no_pass rfl (by decide) (hts _ k_656) (va_Nw.use rfl (hE.2.2.2.2.1 ("java/lang/IllegalArgumentException", "java/lang/IllegalArgumentException") (by decide +kernel))) hce hcv hcl ?_
    refine W.eq (g2 := F0 m 12 ls [.ref q9]) (by rfl) ?_
    have hP : va_P D vwCl [] H := fun k q h => by simp at h
    have hD : va_D A [] := hD.sub (ws' := []) [] (by decide) rfl
    have hgo9 := trivial
    refine lv_astore_n (lv' := [(3, .ref q9), (0, .ref h0), (1, .int n), (2, .ref ou)]) hx hb d_L_house_12 rfl hl (by decide) rfl (fun ls hl => ?_)
    refine lv_iconst (v := 1) hx hb d_L_house_13 (by decide) ?_
    exact vx_ret (ret_I (w := []) C hP hD hS [] rfl rfl (Or.inr (⟨hx9, rfl, rfl⟩)) (by decide) (by decide) d_L_house_14)
  · obtain ⟨hp9, rfl, rfl⟩ := hw9
    have hP : va_P D vwCl [(ou, eJ (ty 3) 1 (fun _ => 0))] H := hP
    have hD : va_D A [(ou, eJ (ty 3) 1 (fun _ => 0))] := hD
    refine lv_i2l (v := (-12)) hx hb d_L_house_7 (by decide) ?_
    refine r_last (w := [(ou, eJ (ty 3) 1 (vp_updL (fun _ => 0) 0 (-12)))]) C hP hD hS 0 rfl 0 rfl (by decide) (by decide) rfl d_L_house_8 (fun H locs hP hD hS => ?_)
    refine lv_goto (tgt := 15) hx hb d_L_house_9 (by decide) ?_
    refine lv_iconst (v := 0) hx hb d_L_house_15 (by decide) ?_
    exact vx_ret (ret_I (w := [(ou, eJ (ty 3) 1 (vp_updL (fun _ => 0) 0 (-12)))]) C hP hD hS [0] rfl rfl (Or.inl ⟨hp9, rfl, rfl⟩) (by decide) (by decide) d_L_house_16)
set_option maxHeartbeats 4000000 in
set_option maxRecDepth 100000 in
theorem w_person (l : Launch) (D : va_G) (ty : Nat → ClassId) (h0 : Nat) (rd : Nat) (ho : Nat) (nw : Nat) (tr : Nat) (ts : Nat) (im : Nat) (g1 : Nat) (g2 : Nat) (g3 : Nat) (pn : Int32) (wh : Int32) (ou : Nat) (hl9 : l.stackTraces = false) : CW l D ty ⟨"PinchedBillLaw", "person", "(LPinchedBill;II[J)I"⟩ method_4_code 5 (some .int) [(0, 10, 13, 19), (0, 10, 17, 13)] 8 126 1 6 [.ref h0, .int pn, .int wh, .ref ou] [(h0, eO 8 [.ref rd, .ref ho, .ref nw, .ref tr, .ref ts, .ref im, .null]), (ho, eO 0 [.int 0, .int 1, .int 0, .int 0, .int 0, .int 0, .int 0, .int 0, .int 0, .int 0, .ref g1, .ref g2, .ref g3]), (ou, eJ (ty 3) 1 (fun _ => 0))] (QI D ty (fun (r : Int32) (w : va_W) => (1 = r ∧ w = []))) := by
  refine CW_of (by decide) ?_
  intro p e s m below meth c A C hct hP hD hS
  obtain ⟨⟨hx, hb, hml, hown, hts⟩, hr, hlocks, hnm, hK, hE, hA, hZ⟩ := id C
  refine startW [.ref h0, .int pn, .int wh, .ref ou] 5 (nle rfl) (lv := [(0, .ref h0), (1, .int pn), (2, .int wh), (3, .ref ou)]) rfl (fun ls hl => ?_)
  refine lv_aload_n hx hb d_L_person_0 rfl (lv_at hl 3 rfl) ?_
  refine lv_iconst (v := 0) hx hb d_L_person_1 (by decide) ?_
  refine lv_aload_n hx hb d_L_person_2 rfl (lv_at hl 0 rfl) ?_
  refine lv_iload_n hx hb d_L_person_3 rfl (lv_at hl 1 rfl) ?_
  refine lv_iload_n hx hb d_L_person_4 rfl (lv_at hl 2 rfl) ?_
  have ct_1 : Cut [(h0, eO 8 [.ref rd, .ref ho, .ref nw, .ref tr, .ref ts, .ref im, .null]), (ho, eO 0 [.int 0, .int 1, .int 0, .int 0, .int 0, .int 0, .int 0, .int 0, .int 0, .int 0, .ref g1, .ref g2, .ref g3]), (ou, eJ (ty 3) 1 (fun _ => 0))] [(h0, eO 8 [.ref rd, .ref ho, .ref nw, .ref tr, .ref ts, .ref im, .null]), (ho, eO 0 [.int 0, .int 1, .int 0, .int 0, .int 0, .int 0, .int 0, .int 0, .int 0, .int 0, .ref g1, .ref g2, .ref g3])] [(ou, eJ (ty 3) 1 (fun _ => 0))] [0, 1] [2] := ⟨rfl, rfl, rfl, rfl, by decide⟩
  refine contc_N C hD hS ct_1 (runx_V (As := [.int pn, .int wh]) (rest := [.int 0, .ref ou]) C hP hD hS ct_1 (p_person l D ty h0 rd ho nw tr ts im g1 g2 g3 pn wh hl9) kV_PinchedBillLaw_15 0 rfl rfl rfl rfl hl.1 rfl (nle rfl) d_L_person_5 ⟨by decide, by decide, by decide, by decide⟩) (fun E ce q9 H locs hpx hS hce hcv hcl => ?_)
  obtain rfl := hpx
  refine vx_catch (own := "PinchedBillLaw") (name := "java/util/NoSuchElementException") hown (tableOf []) ⟨0, 10, 13, 19⟩ (tableOf [(0, 10, 17, 13)]) (hct.trans rfl) no_pass rfl (by decide) (hts _ k_990) (va_Nw.use rfl (hE.2.2.2.2.1 ("java/util/NoSuchElementException", "java/util/NoSuchElementException") (by decide +kernel))) hce hcv hcl ?_
  refine W.eq (g2 := F0 m 13 ls [.ref q9]) (by rfl) ?_
  have hP : va_P D vwCl [] H := fun k q h => by simp at h
  have hD : va_D A [] := hD.sub (ws' := []) [] (by decide) rfl
  have hgo9 := trivial
  refine lv_astore (lv' := [(4, .ref q9), (0, .ref h0), (1, .int pn), (2, .int wh), (3, .ref ou)]) hx hb d_L_person_13 hl (by decide) rfl (fun ls hl => ?_)
  refine lv_iconst (v := 1) hx hb d_L_person_15 (by decide) ?_
  exact vx_ret (ret_I (w := []) C hP hD hS [] rfl rfl (⟨rfl, rfl⟩) (by decide) (by decide) d_L_person_16)
set_option maxHeartbeats 4000000 in
set_option maxRecDepth 100000 in
theorem w_pinched (l : Launch) (D : va_G) (ty : Nat → ClassId) (h0 : Nat) (rd : Nat) (ho : Nat) (nw : Nat) (tr : Nat) (ts : Nat) (im : Nat) (g1 : Nat) (g2 : Nat) (g3 : Nat) (n0 : Nat) (n1 : Nat) (n2 : Nat) (n3 : Nat) (b : Int32) (ou : Nat) (hl9 : l.stackTraces = false) : CW l D ty ⟨"PinchedBillLaw", "pinched", "(LPinchedBill;I[J)I"⟩ method_5_code 4 (some .int) [(0, 9, 12, 13)] 8 124 16 22369 [.ref h0, .int b, .ref ou] [(h0, eO 8 [.ref rd, .ref ho, .ref nw, .ref tr, .ref ts, .ref im, .null]), (ho, eO 0 [.int 0, .int 1, .int 0, .int 0, .int 0, .int 0, .int 0, .int 0, .int 0, .int 0, .ref g1, .ref g2, .ref g3]), (nw, eO 5 [.ref n0, .int 0, .int 0, .ref n1, .ref n2, .ref n3]), (n0, eO 7 [.int 0, .int (-1)]), (ou, eJ (ty 3) 1 (fun _ => 0))] (QI D ty (fun (r : Int32) (w : va_W) => (((bB b = 1)) ∧ 0 = r ∧ w = [(ou, eJ (ty 3) 1 (vp_updL (fun _ => 0) 0 0))]) ∨ ((¬ ((bB b = 1))) ∧ 1 = r ∧ w = []))) := by
  refine CW_of (by decide) ?_
  intro p e s m below meth c A C hct hP hD hS
  obtain ⟨⟨hx, hb, hml, hown, hts⟩, hr, hlocks, hnm, hK, hE, hA, hZ⟩ := id C
  refine startW [.ref h0, .int b, .ref ou] 4 (nle rfl) (lv := [(0, .ref h0), (1, .int b), (2, .ref ou)]) rfl (fun ls hl => ?_)
  refine lv_aload_n hx hb d_L_pinched_0 rfl (lv_at hl 2 rfl) ?_
  refine lv_iconst (v := 0) hx hb d_L_pinched_1 (by decide) ?_
  refine lv_aload_n hx hb d_L_pinched_2 rfl (lv_at hl 0 rfl) ?_
  refine lv_iload_n hx hb d_L_pinched_3 rfl (lv_at hl 1 rfl) ?_
  have ct_1 : Cut [(h0, eO 8 [.ref rd, .ref ho, .ref nw, .ref tr, .ref ts, .ref im, .null]), (ho, eO 0 [.int 0, .int 1, .int 0, .int 0, .int 0, .int 0, .int 0, .int 0, .int 0, .int 0, .ref g1, .ref g2, .ref g3]), (nw, eO 5 [.ref n0, .int 0, .int 0, .ref n1, .ref n2, .ref n3]), (n0, eO 7 [.int 0, .int (-1)]), (ou, eJ (ty 3) 1 (fun _ => 0))] [(h0, eO 8 [.ref rd, .ref ho, .ref nw, .ref tr, .ref ts, .ref im, .null]), (ho, eO 0 [.int 0, .int 1, .int 0, .int 0, .int 0, .int 0, .int 0, .int 0, .int 0, .int 0, .ref g1, .ref g2, .ref g3]), (nw, eO 5 [.ref n0, .int 0, .int 0, .ref n1, .ref n2, .ref n3]), (n0, eO 7 [.int 0, .int (-1)])] [(ou, eJ (ty 3) 1 (fun _ => 0))] [0, 1, 2, 3] [4] := ⟨rfl, rfl, rfl, rfl, by decide⟩
  refine contc_I C hP hD hS ct_1 (runx_V (As := [.int b]) (rest := [.int 0, .ref ou]) C hP hD hS ct_1 (p_pinched l D ty h0 rd ho nw tr ts im g1 g2 g3 n0 n1 n2 n3 b hl9) kV_PinchedBillLaw_21 0 rfl rfl rfl rfl hl.1 rfl (nle rfl) d_L_pinched_4 ⟨by decide, by decide, by decide, by decide⟩) (fun E ce q9 H locs hpx hS hce hcv hcl => ?_) (fun r9 w9 H locs hw9 hP hD hS => ?_)
  · obtain ⟨rfl, hx9⟩ := hpx
    refine vx_catch (own := "PinchedBillLaw") (name := "java/lang/IllegalArgumentException") hown (tableOf []) ⟨0, 9, 12, 13⟩ (tableOf []) (hct.trans rfl) no_pass rfl (by decide) (hts _ k_656) (va_Nw.use rfl (hE.2.2.2.2.1 ("java/lang/IllegalArgumentException", "java/lang/IllegalArgumentException") (by decide +kernel))) hce hcv hcl ?_
    refine W.eq (g2 := F0 m 12 ls [.ref q9]) (by rfl) ?_
    have hP : va_P D vwCl [] H := fun k q h => by simp at h
    have hD : va_D A [] := hD.sub (ws' := []) [] (by decide) rfl
    have hgo9 := trivial
    refine lv_astore_n (lv' := [(3, .ref q9), (0, .ref h0), (1, .int b), (2, .ref ou)]) hx hb d_L_pinched_12 rfl hl (by decide) rfl (fun ls hl => ?_)
    refine lv_iconst (v := 1) hx hb d_L_pinched_13 (by decide) ?_
    exact vx_ret (ret_I (w := []) C hP hD hS [] rfl rfl (Or.inr (⟨hx9, rfl, rfl⟩)) (by decide) (by decide) d_L_pinched_14)
  · obtain ⟨hp9, rfl, rfl⟩ := hw9
    have hP : va_P D vwCl [(ou, eJ (ty 3) 1 (fun _ => 0))] H := hP
    have hD : va_D A [(ou, eJ (ty 3) 1 (fun _ => 0))] := hD
    refine lv_i2l (v := 0) hx hb d_L_pinched_7 (by decide) ?_
    refine r_last (w := [(ou, eJ (ty 3) 1 (vp_updL (fun _ => 0) 0 0))]) C hP hD hS 0 rfl 0 rfl (by decide) (by decide) rfl d_L_pinched_8 (fun H locs hP hD hS => ?_)
    refine lv_goto (tgt := 15) hx hb d_L_pinched_9 (by decide) ?_
    refine lv_iconst (v := 0) hx hb d_L_pinched_15 (by decide) ?_
    exact vx_ret (ret_I (w := [(ou, eJ (ty 3) 1 (vp_updL (fun _ => 0) 0 0))]) C hP hD hS [0] rfl rfl (Or.inl ⟨hp9, rfl, rfl⟩) (by decide) (by decide) d_L_pinched_16)
set_option maxHeartbeats 4000000 in
set_option maxRecDepth 100000 in
theorem w_spoken (l : Launch) (D : va_G) (ty : Nat → ClassId) (h0 : Nat) (rd : Nat) (ho : Nat) (nw : Nat) (tr : Nat) (ts : Nat) (im : Nat) (g1 : Nat) (g2 : Nat) (g3 : Nat) (b : Int32) (pn : Int32) (ou : Nat) (hl9 : l.stackTraces = false) : CW l D ty ⟨"PinchedBillLaw", "spoken", "(LPinchedBill;II[J)I"⟩ method_6_code 5 (some .int) [(0, 10, 13, 19), (0, 10, 17, 13)] 8 125 1 6 [.ref h0, .int b, .int pn, .ref ou] [(h0, eO 8 [.ref rd, .ref ho, .ref nw, .ref tr, .ref ts, .ref im, .null]), (ho, eO 0 [.int 0, .int 1, .int 0, .int 0, .int 0, .int 0, .int 0, .int 0, .int 0, .int 0, .ref g1, .ref g2, .ref g3]), (ou, eJ (ty 3) 1 (fun _ => 0))] (QI D ty (fun (r : Int32) (w : va_W) => (1 = r ∧ w = []))) := by
  refine CW_of (by decide) ?_
  intro p e s m below meth c A C hct hP hD hS
  obtain ⟨⟨hx, hb, hml, hown, hts⟩, hr, hlocks, hnm, hK, hE, hA, hZ⟩ := id C
  refine startW [.ref h0, .int b, .int pn, .ref ou] 5 (nle rfl) (lv := [(0, .ref h0), (1, .int b), (2, .int pn), (3, .ref ou)]) rfl (fun ls hl => ?_)
  refine lv_aload_n hx hb d_L_spoken_0 rfl (lv_at hl 3 rfl) ?_
  refine lv_iconst (v := 0) hx hb d_L_spoken_1 (by decide) ?_
  refine lv_aload_n hx hb d_L_spoken_2 rfl (lv_at hl 0 rfl) ?_
  refine lv_iload_n hx hb d_L_spoken_3 rfl (lv_at hl 1 rfl) ?_
  refine lv_iload_n hx hb d_L_spoken_4 rfl (lv_at hl 2 rfl) ?_
  have ct_1 : Cut [(h0, eO 8 [.ref rd, .ref ho, .ref nw, .ref tr, .ref ts, .ref im, .null]), (ho, eO 0 [.int 0, .int 1, .int 0, .int 0, .int 0, .int 0, .int 0, .int 0, .int 0, .int 0, .ref g1, .ref g2, .ref g3]), (ou, eJ (ty 3) 1 (fun _ => 0))] [(h0, eO 8 [.ref rd, .ref ho, .ref nw, .ref tr, .ref ts, .ref im, .null]), (ho, eO 0 [.int 0, .int 1, .int 0, .int 0, .int 0, .int 0, .int 0, .int 0, .int 0, .int 0, .ref g1, .ref g2, .ref g3])] [(ou, eJ (ty 3) 1 (fun _ => 0))] [0, 1] [2] := ⟨rfl, rfl, rfl, rfl, by decide⟩
  refine contc_N C hD hS ct_1 (runx_V (As := [.int b, .int pn]) (rest := [.int 0, .ref ou]) C hP hD hS ct_1 (p_spoken l D ty h0 rd ho nw tr ts im g1 g2 g3 b pn hl9) kV_PinchedBillLaw_24 0 rfl rfl rfl rfl hl.1 rfl (nle rfl) d_L_spoken_5 ⟨by decide, by decide, by decide, by decide⟩) (fun E ce q9 H locs hpx hS hce hcv hcl => ?_)
  obtain rfl := hpx
  refine vx_catch (own := "PinchedBillLaw") (name := "java/util/NoSuchElementException") hown (tableOf []) ⟨0, 10, 13, 19⟩ (tableOf [(0, 10, 17, 13)]) (hct.trans rfl) no_pass rfl (by decide) (hts _ k_990) (va_Nw.use rfl (hE.2.2.2.2.1 ("java/util/NoSuchElementException", "java/util/NoSuchElementException") (by decide +kernel))) hce hcv hcl ?_
  refine W.eq (g2 := F0 m 13 ls [.ref q9]) (by rfl) ?_
  have hP : va_P D vwCl [] H := fun k q h => by simp at h
  have hD : va_D A [] := hD.sub (ws' := []) [] (by decide) rfl
  have hgo9 := trivial
  refine lv_astore (lv' := [(4, .ref q9), (0, .ref h0), (1, .int b), (2, .int pn), (3, .ref ou)]) hx hb d_L_spoken_13 hl (by decide) rfl (fun ls hl => ?_)
  refine lv_iconst (v := 1) hx hb d_L_spoken_15 (by decide) ?_
  exact vx_ret (ret_I (w := []) C hP hD hS [] rfl rfl (⟨rfl, rfl⟩) (by decide) (by decide) d_L_spoken_16)
set_option maxHeartbeats 4000000 in
set_option maxRecDepth 100000 in
theorem w_steps (l : Launch) (D : va_G) (ty : Nat → ClassId) (h0 : Nat) (rd : Nat) (ho : Nat) (nw : Nat) (tr : Nat) (ts : Nat) (im : Nat) (g1 : Nat) (g2 : Nat) (g3 : Nat) (n0 : Nat) (n1 : Nat) (n2 : Nat) (n3 : Nat) (n : Int32) (ou : Nat) (hl9 : l.stackTraces = false) : CW l D ty ⟨"PinchedBillLaw", "steps", "(LPinchedBill;I[J)I"⟩ method_7_code 4 (some .int) [(0, 9, 12, 13)] 8 135 16 22369 [.ref h0, .int n, .ref ou] [(h0, eO 8 [.ref rd, .ref ho, .ref nw, .ref tr, .ref ts, .ref im, .null]), (ho, eO 0 [.int 0, .int 1, .int 0, .int 0, .int 0, .int 0, .int 0, .int 0, .int 0, .int 0, .ref g1, .ref g2, .ref g3]), (nw, eO 5 [.ref n0, .int 0, .int 0, .ref n1, .ref n2, .ref n3]), (n0, eO 7 [.int 0, .int (-1)]), (n1, eI (ty 0) 10 (fun _ => 0)), (n2, eI (ty 0) 10 (fun _ => 0)), (n3, eI (ty 0) 10 (fun _ => 0)), (ou, eJ (ty 3) 1 (fun _ => 0))] (QI D ty (fun (r : Int32) (w : va_W) => (((¬ n < 1 ∧ ¬ 999 < n)) ∧ 0 = r ∧ w = [(ou, eJ (ty 3) 1 (vp_updL (fun _ => 0) 0 0))]) ∨ ((¬ ((¬ n < 1 ∧ ¬ 999 < n))) ∧ 1 = r ∧ w = []))) := by
  refine CW_of (by decide) ?_
  intro p e s m below meth c A C hct hP hD hS
  obtain ⟨⟨hx, hb, hml, hown, hts⟩, hr, hlocks, hnm, hK, hE, hA, hZ⟩ := id C
  refine startW [.ref h0, .int n, .ref ou] 4 (nle rfl) (lv := [(0, .ref h0), (1, .int n), (2, .ref ou)]) rfl (fun ls hl => ?_)
  refine lv_aload_n hx hb d_L_steps_0 rfl (lv_at hl 2 rfl) ?_
  refine lv_iconst (v := 0) hx hb d_L_steps_1 (by decide) ?_
  refine lv_aload_n hx hb d_L_steps_2 rfl (lv_at hl 0 rfl) ?_
  refine lv_iload_n hx hb d_L_steps_3 rfl (lv_at hl 1 rfl) ?_
  have ct_1 : Cut [(h0, eO 8 [.ref rd, .ref ho, .ref nw, .ref tr, .ref ts, .ref im, .null]), (ho, eO 0 [.int 0, .int 1, .int 0, .int 0, .int 0, .int 0, .int 0, .int 0, .int 0, .int 0, .ref g1, .ref g2, .ref g3]), (nw, eO 5 [.ref n0, .int 0, .int 0, .ref n1, .ref n2, .ref n3]), (n0, eO 7 [.int 0, .int (-1)]), (n1, eI (ty 0) 10 (fun _ => 0)), (n2, eI (ty 0) 10 (fun _ => 0)), (n3, eI (ty 0) 10 (fun _ => 0)), (ou, eJ (ty 3) 1 (fun _ => 0))] [(h0, eO 8 [.ref rd, .ref ho, .ref nw, .ref tr, .ref ts, .ref im, .null]), (ho, eO 0 [.int 0, .int 1, .int 0, .int 0, .int 0, .int 0, .int 0, .int 0, .int 0, .int 0, .ref g1, .ref g2, .ref g3]), (nw, eO 5 [.ref n0, .int 0, .int 0, .ref n1, .ref n2, .ref n3]), (n0, eO 7 [.int 0, .int (-1)]), (n1, eI (ty 0) 10 (fun _ => 0)), (n2, eI (ty 0) 10 (fun _ => 0)), (n3, eI (ty 0) 10 (fun _ => 0))] [(ou, eJ (ty 3) 1 (fun _ => 0))] [0, 1, 2, 3, 4, 5, 6] [7] := ⟨rfl, rfl, rfl, rfl, by decide⟩
  refine contc_I C hP hD hS ct_1 (runx_V (As := [.int n]) (rest := [.int 0, .ref ou]) C hP hD hS ct_1 (p_steps l D ty h0 rd ho nw tr ts im g1 g2 g3 n0 n1 n2 n3 n hl9) kV_PinchedBillLaw_27 0 rfl rfl rfl rfl hl.1 rfl (nle rfl) d_L_steps_4 ⟨by decide, by decide, by decide, by decide⟩) (fun E ce q9 H locs hpx hS hce hcv hcl => ?_) (fun r9 w9 H locs hw9 hP hD hS => ?_)
  · obtain ⟨rfl, hx9⟩ := hpx
    refine vx_catch (own := "PinchedBillLaw") (name := "java/lang/IllegalArgumentException") hown (tableOf []) ⟨0, 9, 12, 13⟩ (tableOf []) (hct.trans rfl) no_pass rfl (by decide) (hts _ k_656) (va_Nw.use rfl (hE.2.2.2.2.1 ("java/lang/IllegalArgumentException", "java/lang/IllegalArgumentException") (by decide +kernel))) hce hcv hcl ?_
    refine W.eq (g2 := F0 m 12 ls [.ref q9]) (by rfl) ?_
    have hP : va_P D vwCl [] H := fun k q h => by simp at h
    have hD : va_D A [] := hD.sub (ws' := []) [] (by decide) rfl
    have hgo9 := trivial
    refine lv_astore_n (lv' := [(3, .ref q9), (0, .ref h0), (1, .int n), (2, .ref ou)]) hx hb d_L_steps_12 rfl hl (by decide) rfl (fun ls hl => ?_)
    refine lv_iconst (v := 1) hx hb d_L_steps_13 (by decide) ?_
    exact vx_ret (ret_I (w := []) C hP hD hS [] rfl rfl (Or.inr (⟨hx9, rfl, rfl⟩)) (by decide) (by decide) d_L_steps_14)
  · obtain ⟨hp9, rfl, rfl⟩ := hw9
    have hP : va_P D vwCl [(ou, eJ (ty 3) 1 (fun _ => 0))] H := hP
    have hD : va_D A [(ou, eJ (ty 3) 1 (fun _ => 0))] := hD
    refine lv_i2l (v := 0) hx hb d_L_steps_7 (by decide) ?_
    refine r_last (w := [(ou, eJ (ty 3) 1 (vp_updL (fun _ => 0) 0 0))]) C hP hD hS 0 rfl 0 rfl (by decide) (by decide) rfl d_L_steps_8 (fun H locs hP hD hS => ?_)
    refine lv_goto (tgt := 15) hx hb d_L_steps_9 (by decide) ?_
    refine lv_iconst (v := 0) hx hb d_L_steps_15 (by decide) ?_
    exact vx_ret (ret_I (w := [(ou, eJ (ty 3) 1 (vp_updL (fun _ => 0) 0 0))]) C hP hD hS [0] rfl rfl (Or.inl ⟨hp9, rfl, rfl⟩) (by decide) (by decide) d_L_steps_16)
set_option maxHeartbeats 4000000 in
set_option maxRecDepth 100000 in
theorem w_undo (l : Launch) (D : va_G) (ty : Nat → ClassId) (h0 : Nat) (rd : Nat) (ho : Nat) (nw : Nat) (tr : Nat) (ts : Nat) (im : Nat) (n0 : Nat) (n1 : Nat) (n2 : Nat) (n3 : Nat) (n : Int32) (ou : Nat) (hl9 : l.stackTraces = false) : CW l D ty ⟨"PinchedBillLaw", "undo", "(LPinchedBill;I[J)I"⟩ method_8_code 4 (some .int) [(0, 9, 12, 13)] 8 126 1 6 [.ref h0, .int n, .ref ou] [(h0, eO 8 [.ref rd, .ref ho, .ref nw, .ref tr, .ref ts, .ref im, .null]), (nw, eO 5 [.ref n0, .int 0, .int 0, .ref n1, .ref n2, .ref n3]), (ou, eJ (ty 3) 1 (fun _ => 0))] (QI D ty (fun (r : Int32) (w : va_W) => (1 = r ∧ w = []))) := by
  refine CW_of (by decide) ?_
  intro p e s m below meth c A C hct hP hD hS
  obtain ⟨⟨hx, hb, hml, hown, hts⟩, hr, hlocks, hnm, hK, hE, hA, hZ⟩ := id C
  refine startW [.ref h0, .int n, .ref ou] 4 (nle rfl) (lv := [(0, .ref h0), (1, .int n), (2, .ref ou)]) rfl (fun ls hl => ?_)
  refine lv_aload_n hx hb d_L_undo_0 rfl (lv_at hl 2 rfl) ?_
  refine lv_iconst (v := 0) hx hb d_L_undo_1 (by decide) ?_
  refine lv_aload_n hx hb d_L_undo_2 rfl (lv_at hl 0 rfl) ?_
  refine lv_iload_n hx hb d_L_undo_3 rfl (lv_at hl 1 rfl) ?_
  have ct_1 : Cut [(h0, eO 8 [.ref rd, .ref ho, .ref nw, .ref tr, .ref ts, .ref im, .null]), (nw, eO 5 [.ref n0, .int 0, .int 0, .ref n1, .ref n2, .ref n3]), (ou, eJ (ty 3) 1 (fun _ => 0))] [(h0, eO 8 [.ref rd, .ref ho, .ref nw, .ref tr, .ref ts, .ref im, .null]), (nw, eO 5 [.ref n0, .int 0, .int 0, .ref n1, .ref n2, .ref n3])] [(ou, eJ (ty 3) 1 (fun _ => 0))] [0, 1] [2] := ⟨rfl, rfl, rfl, rfl, by decide⟩
  refine contc_N C hD hS ct_1 (runx_V (As := [.int n]) (rest := [.int 0, .ref ou]) C hP hD hS ct_1 (p_undo l D ty h0 rd ho nw tr ts im n0 n1 n2 n3 n hl9) kV_PinchedBillLaw_30 0 rfl rfl rfl rfl hl.1 rfl (nle rfl) d_L_undo_4 ⟨by decide, by decide, by decide, by decide⟩) (fun E ce q9 H locs hpx hS hce hcv hcl => ?_)
  obtain rfl := hpx
  refine vx_catch (own := "PinchedBillLaw") (name := "java/lang/IllegalArgumentException") hown (tableOf []) ⟨0, 9, 12, 13⟩ (tableOf []) (hct.trans rfl) no_pass rfl (by decide) (hts _ k_656) (va_Nw.use rfl (hE.2.2.2.2.1 ("java/lang/IllegalArgumentException", "java/lang/IllegalArgumentException") (by decide +kernel))) hce hcv hcl ?_
  refine W.eq (g2 := F0 m 12 ls [.ref q9]) (by rfl) ?_
  have hP : va_P D vwCl [] H := fun k q h => by simp at h
  have hD : va_D A [] := hD.sub (ws' := []) [] (by decide) rfl
  have hgo9 := trivial
  refine lv_astore_n (lv' := [(3, .ref q9), (0, .ref h0), (1, .int n), (2, .ref ou)]) hx hb d_L_undo_12 rfl hl (by decide) rfl (fun ls hl => ?_)
  refine lv_iconst (v := 1) hx hb d_L_undo_13 (by decide) ?_
  exact vx_ret (ret_I (w := []) C hP hD hS [] rfl rfl (⟨rfl, rfl⟩) (by decide) (by decide) d_L_undo_14)
set_option maxHeartbeats 4000000 in
set_option maxRecDepth 100000 in
theorem w_judge (l : Launch) (D : va_G) (ty : Nat → ClassId) (h0 : Nat) (rd : Nat) (ho : Nat) (nw : Nat) (tr : Nat) (ts : Nat) (im : Nat) (t : Int32) (wh : Int32) (ou : Nat) (hl9 : l.stackTraces = false) : CW l D ty ⟨"PinchedBillLaw", "judge", "(LPinchedBill;II[J)I"⟩ method_9_code 5 (some .int) [(0, 10, 13, 19), (0, 10, 17, 36), (0, 10, 21, 13)] 9 148 2 12 [.ref h0, .int t, .int wh, .ref ou] [(h0, eO 8 [.ref rd, .ref ho, .ref nw, .ref tr, .ref ts, .ref im, .null]), (ts, eQ (ty 4) 4 (fun _ => none)), (ou, eJ (ty 3) 1 (fun _ => 0))] (QI D ty (fun (r : Int32) (w : va_W) => ((¬ (¬ t < 0 ∧ t < 4)) ∧ 1 = r ∧ w = []) ∨ ((¬ t < 0 ∧ t < 4) ∧ 2 = r ∧ w = []))) := by
  refine CW_of (by decide) ?_
  intro p e s m below meth c A C hct hP hD hS
  obtain ⟨⟨hx, hb, hml, hown, hts⟩, hr, hlocks, hnm, hK, hE, hA, hZ⟩ := id C
  refine startW [.ref h0, .int t, .int wh, .ref ou] 5 (nle rfl) (lv := [(0, .ref h0), (1, .int t), (2, .int wh), (3, .ref ou)]) rfl (fun ls hl => ?_)
  refine lv_aload_n hx hb d_L_judge_0 rfl (lv_at hl 3 rfl) ?_
  refine lv_iconst (v := 0) hx hb d_L_judge_1 (by decide) ?_
  refine lv_aload_n hx hb d_L_judge_2 rfl (lv_at hl 0 rfl) ?_
  refine lv_iload_n hx hb d_L_judge_3 rfl (lv_at hl 1 rfl) ?_
  refine lv_iload_n hx hb d_L_judge_4 rfl (lv_at hl 2 rfl) ?_
  have ct_1 : Cut [(h0, eO 8 [.ref rd, .ref ho, .ref nw, .ref tr, .ref ts, .ref im, .null]), (ts, eQ (ty 4) 4 (fun _ => none)), (ou, eJ (ty 3) 1 (fun _ => 0))] [(h0, eO 8 [.ref rd, .ref ho, .ref nw, .ref tr, .ref ts, .ref im, .null]), (ts, eQ (ty 4) 4 (fun _ => none))] [(ou, eJ (ty 3) 1 (fun _ => 0))] [0, 1] [2] := ⟨rfl, rfl, rfl, rfl, by decide⟩
  refine contc_N C hD hS ct_1 (runx_V (As := [.int t, .int wh]) (rest := [.int 0, .ref ou]) C hP hD hS ct_1 (p_judge l D ty h0 rd ho nw tr ts im t wh hl9) kV_PinchedBillLaw_33 0 rfl rfl rfl rfl hl.1 rfl (nle rfl) d_L_judge_5 ⟨by decide, by decide, by decide, by decide⟩) (fun E ce q9 H locs hpx hS hce hcv hcl => ?_)
  rcases hpx with ⟨rfl, hx9⟩ | ⟨rfl, hx9⟩
  · refine vx_catch (own := "PinchedBillLaw") (name := "java/util/NoSuchElementException") hown (tableOf []) ⟨0, 10, 13, 19⟩ (tableOf [(0, 10, 17, 36), (0, 10, 21, 13)]) (hct.trans rfl) no_pass rfl (by decide) (hts _ k_990) (va_Nw.use rfl (hE.2.2.2.2.1 ("java/util/NoSuchElementException", "java/util/NoSuchElementException") (by decide +kernel))) hce hcv hcl ?_
    refine W.eq (g2 := F0 m 13 ls [.ref q9]) (by rfl) ?_
    have hP : va_P D vwCl [] H := fun k q h => by simp at h
    have hD : va_D A [] := hD.sub (ws' := []) [] (by decide) rfl
    have hgo9 := trivial
    refine lv_astore (lv' := [(4, .ref q9), (0, .ref h0), (1, .int t), (2, .int wh), (3, .ref ou)]) hx hb d_L_judge_13 hl (by decide) rfl (fun ls hl => ?_)
    refine lv_iconst (v := 1) hx hb d_L_judge_15 (by decide) ?_
    exact vx_ret (ret_I (w := []) C hP hD hS [] rfl rfl (Or.inl ⟨hx9, rfl, rfl⟩) (by decide) (by decide) d_L_judge_16)
  · refine vx_catch (own := "PinchedBillLaw") (name := "java/lang/IllegalStateException") hown (tableOf [(0, 10, 13, 19)]) ⟨0, 10, 17, 36⟩ (tableOf [(0, 10, 21, 13)]) (hct.trans rfl) (one_pass (by decide) (hts _ k_990) (hE.2.2.2.2.2.1 ("java/lang/IllegalStateException", "java/util/NoSuchElementException") (by decide +kernel))) rfl (by decide) (hts _ k_1066) (va_Nw.use rfl (hE.2.2.2.2.1 ("java/lang/IllegalStateException", "java/lang/IllegalStateException") (by decide +kernel))) hce hcv hcl ?_
    refine W.eq (g2 := F0 m 17 ls [.ref q9]) (by rfl) ?_
    have hP : va_P D vwCl [] H := fun k q h => by simp at h
    have hD : va_D A [] := hD.sub (ws' := []) [] (by decide) rfl
    have hgo9 := trivial
    refine lv_astore (lv' := [(4, .ref q9), (0, .ref h0), (1, .int t), (2, .int wh), (3, .ref ou)]) hx hb d_L_judge_17 hl (by decide) rfl (fun ls hl => ?_)
    refine lv_iconst (v := 2) hx hb d_L_judge_19 (by decide) ?_
    exact vx_ret (ret_I (w := []) C hP hD hS [] rfl rfl (Or.inr (⟨hx9, rfl, rfl⟩)) (by decide) (by decide) d_L_judge_20)
set_option maxHeartbeats 4000000 in
set_option maxRecDepth 100000 in
theorem w_perform (l : Launch) (D : va_G) (ty : Nat → ClassId) (h0 : Nat) (rd : Nat) (ho : Nat) (nw : Nat) (tr : Nat) (ts : Nat) (im : Nat) (t : Int32) (ou : Nat) (hl9 : l.stackTraces = false) : CW l D ty ⟨"PinchedBillLaw", "perform", "(LPinchedBill;I[J)I"⟩ method_10_code 4 (some .int) [(0, 9, 12, 19), (0, 9, 15, 36)] 9 145 2 12 [.ref h0, .int t, .ref ou] [(h0, eO 8 [.ref rd, .ref ho, .ref nw, .ref tr, .ref ts, .ref im, .null]), (ts, eQ (ty 4) 4 (fun _ => none)), (ou, eJ (ty 3) 1 (fun _ => 0))] (QI D ty (fun (r : Int32) (w : va_W) => ((¬ (¬ t < 0 ∧ t < 4)) ∧ 1 = r ∧ w = []) ∨ ((¬ t < 0 ∧ t < 4) ∧ 2 = r ∧ w = []))) := by
  refine CW_of (by decide) ?_
  intro p e s m below meth c A C hct hP hD hS
  obtain ⟨⟨hx, hb, hml, hown, hts⟩, hr, hlocks, hnm, hK, hE, hA, hZ⟩ := id C
  refine startW [.ref h0, .int t, .ref ou] 4 (nle rfl) (lv := [(0, .ref h0), (1, .int t), (2, .ref ou)]) rfl (fun ls hl => ?_)
  refine lv_aload_n hx hb d_L_perform_0 rfl (lv_at hl 2 rfl) ?_
  refine lv_iconst (v := 0) hx hb d_L_perform_1 (by decide) ?_
  refine lv_aload_n hx hb d_L_perform_2 rfl (lv_at hl 0 rfl) ?_
  refine lv_iload_n hx hb d_L_perform_3 rfl (lv_at hl 1 rfl) ?_
  have ct_1 : Cut [(h0, eO 8 [.ref rd, .ref ho, .ref nw, .ref tr, .ref ts, .ref im, .null]), (ts, eQ (ty 4) 4 (fun _ => none)), (ou, eJ (ty 3) 1 (fun _ => 0))] [(h0, eO 8 [.ref rd, .ref ho, .ref nw, .ref tr, .ref ts, .ref im, .null]), (ts, eQ (ty 4) 4 (fun _ => none))] [(ou, eJ (ty 3) 1 (fun _ => 0))] [0, 1] [2] := ⟨rfl, rfl, rfl, rfl, by decide⟩
  refine contc_N C hD hS ct_1 (runx_V (As := [.int t]) (rest := [.int 0, .ref ou]) C hP hD hS ct_1 (p_perform l D ty h0 rd ho nw tr ts im t hl9) kV_PinchedBillLaw_38 0 rfl rfl rfl rfl hl.1 rfl (nle rfl) d_L_perform_4 ⟨by decide, by decide, by decide, by decide⟩) (fun E ce q9 H locs hpx hS hce hcv hcl => ?_)
  rcases hpx with ⟨rfl, hx9⟩ | ⟨rfl, hx9⟩
  · refine vx_catch (own := "PinchedBillLaw") (name := "java/util/NoSuchElementException") hown (tableOf []) ⟨0, 9, 12, 19⟩ (tableOf [(0, 9, 15, 36)]) (hct.trans rfl) no_pass rfl (by decide) (hts _ k_990) (va_Nw.use rfl (hE.2.2.2.2.1 ("java/util/NoSuchElementException", "java/util/NoSuchElementException") (by decide +kernel))) hce hcv hcl ?_
    refine W.eq (g2 := F0 m 12 ls [.ref q9]) (by rfl) ?_
    have hP : va_P D vwCl [] H := fun k q h => by simp at h
    have hD : va_D A [] := hD.sub (ws' := []) [] (by decide) rfl
    have hgo9 := trivial
    refine lv_astore_n (lv' := [(3, .ref q9), (0, .ref h0), (1, .int t), (2, .ref ou)]) hx hb d_L_perform_12 rfl hl (by decide) rfl (fun ls hl => ?_)
    refine lv_iconst (v := 1) hx hb d_L_perform_13 (by decide) ?_
    exact vx_ret (ret_I (w := []) C hP hD hS [] rfl rfl (Or.inl ⟨hx9, rfl, rfl⟩) (by decide) (by decide) d_L_perform_14)
  · refine vx_catch (own := "PinchedBillLaw") (name := "java/lang/IllegalStateException") hown (tableOf [(0, 9, 12, 19)]) ⟨0, 9, 15, 36⟩ (tableOf []) (hct.trans rfl) (one_pass (by decide) (hts _ k_990) (hE.2.2.2.2.2.1 ("java/lang/IllegalStateException", "java/util/NoSuchElementException") (by decide +kernel))) rfl (by decide) (hts _ k_1066) (va_Nw.use rfl (hE.2.2.2.2.1 ("java/lang/IllegalStateException", "java/lang/IllegalStateException") (by decide +kernel))) hce hcv hcl ?_
    refine W.eq (g2 := F0 m 15 ls [.ref q9]) (by rfl) ?_
    have hP : va_P D vwCl [] H := fun k q h => by simp at h
    have hD : va_D A [] := hD.sub (ws' := []) [] (by decide) rfl
    have hgo9 := trivial
    refine lv_astore_n (lv' := [(3, .ref q9), (0, .ref h0), (1, .int t), (2, .ref ou)]) hx hb d_L_perform_15 rfl hl (by decide) rfl (fun ls hl => ?_)
    refine lv_iconst (v := 2) hx hb d_L_perform_16 (by decide) ?_
    exact vx_ret (ret_I (w := []) C hP hD hS [] rfl rfl (Or.inr (⟨hx9, rfl, rfl⟩)) (by decide) (by decide) d_L_perform_17)
set_option maxHeartbeats 4000000 in
set_option maxRecDepth 100000 in
theorem w_winter (l : Launch) (D : va_G) (ty : Nat → ClassId) (h0 : Nat) (rd : Nat) (ho : Nat) (nw : Nat) (tr : Nat) (ts : Nat) (im : Nat) (g1 : Nat) (g2 : Nat) (g3 : Nat) (n0 : Nat) (n1 : Nat) (n2 : Nat) (n3 : Nat) (sd : Int32) (tm : Int32) (ou : Nat) (hl9 : l.stackTraces = false) : CW l D ty ⟨"PinchedBillLaw", "winter", "(LPinchedBill;II[J)I"⟩ method_11_code 5 (some .int) [(0, 10, 13, 13)] 8 146 16 22369 [.ref h0, .int sd, .int tm, .ref ou] [(h0, eO 8 [.ref rd, .ref ho, .ref nw, .ref tr, .ref ts, .ref im, .null]), (ho, eO 0 [.int 0, .int 1, .int 0, .int 0, .int 0, .int 0, .int 0, .int 0, .int 0, .int 0, .ref g1, .ref g2, .ref g3]), (nw, eO 5 [.ref n0, .int 0, .int 0, .ref n1, .ref n2, .ref n3]), (n0, eO 7 [.int 0, .int (-1)]), (n1, eI (ty 0) 10 (fun _ => 0)), (n2, eI (ty 0) 10 (fun _ => 0)), (n3, eI (ty 0) 10 (fun _ => 0)), (ou, eJ (ty 3) 1 (fun _ => 0))] (QI D ty (fun (r : Int32) (w : va_W) => (((¬ tm < 1 ∧ ¬ 30 < tm)) ∧ 0 = r ∧ w = [(ou, eJ (ty 3) 1 (vp_updL (fun _ => 0) 0 (lN (wct tm.toNatClampNeg sd))))]) ∨ ((¬ ((¬ tm < 1 ∧ ¬ 30 < tm))) ∧ 1 = r ∧ w = []))) := by
  refine CW_of (by decide) ?_
  intro p e s m below meth c A C hct hP hD hS
  obtain ⟨⟨hx, hb, hml, hown, hts⟩, hr, hlocks, hnm, hK, hE, hA, hZ⟩ := id C
  refine startW [.ref h0, .int sd, .int tm, .ref ou] 5 (nle rfl) (lv := [(0, .ref h0), (1, .int sd), (2, .int tm), (3, .ref ou)]) rfl (fun ls hl => ?_)
  refine lv_aload_n hx hb d_L_winter_0 rfl (lv_at hl 3 rfl) ?_
  refine lv_iconst (v := 0) hx hb d_L_winter_1 (by decide) ?_
  refine lv_aload_n hx hb d_L_winter_2 rfl (lv_at hl 0 rfl) ?_
  refine lv_iload_n hx hb d_L_winter_3 rfl (lv_at hl 1 rfl) ?_
  refine lv_iload_n hx hb d_L_winter_4 rfl (lv_at hl 2 rfl) ?_
  have ct_1 : Cut [(h0, eO 8 [.ref rd, .ref ho, .ref nw, .ref tr, .ref ts, .ref im, .null]), (ho, eO 0 [.int 0, .int 1, .int 0, .int 0, .int 0, .int 0, .int 0, .int 0, .int 0, .int 0, .ref g1, .ref g2, .ref g3]), (nw, eO 5 [.ref n0, .int 0, .int 0, .ref n1, .ref n2, .ref n3]), (n0, eO 7 [.int 0, .int (-1)]), (n1, eI (ty 0) 10 (fun _ => 0)), (n2, eI (ty 0) 10 (fun _ => 0)), (n3, eI (ty 0) 10 (fun _ => 0)), (ou, eJ (ty 3) 1 (fun _ => 0))] [(h0, eO 8 [.ref rd, .ref ho, .ref nw, .ref tr, .ref ts, .ref im, .null]), (ho, eO 0 [.int 0, .int 1, .int 0, .int 0, .int 0, .int 0, .int 0, .int 0, .int 0, .int 0, .ref g1, .ref g2, .ref g3]), (nw, eO 5 [.ref n0, .int 0, .int 0, .ref n1, .ref n2, .ref n3]), (n0, eO 7 [.int 0, .int (-1)]), (n1, eI (ty 0) 10 (fun _ => 0)), (n2, eI (ty 0) 10 (fun _ => 0)), (n3, eI (ty 0) 10 (fun _ => 0))] [(ou, eJ (ty 3) 1 (fun _ => 0))] [0, 1, 2, 3, 4, 5, 6] [7] := ⟨rfl, rfl, rfl, rfl, by decide⟩
  refine contc_I C hP hD hS ct_1 (runx_V (As := [.int sd, .int tm]) (rest := [.int 0, .ref ou]) C hP hD hS ct_1 (p_winter l D ty h0 rd ho nw tr ts im g1 g2 g3 n0 n1 n2 n3 sd tm hl9) kV_PinchedBillLaw_41 0 rfl rfl rfl rfl hl.1 rfl (nle rfl) d_L_winter_5 ⟨by decide, by decide, by decide, by decide⟩) (fun E ce q9 H locs hpx hS hce hcv hcl => ?_) (fun r9 w9 H locs hw9 hP hD hS => ?_)
  · obtain ⟨rfl, hx9⟩ := hpx
    refine vx_catch (own := "PinchedBillLaw") (name := "java/lang/IllegalArgumentException") hown (tableOf []) ⟨0, 10, 13, 13⟩ (tableOf []) (hct.trans rfl) no_pass rfl (by decide) (hts _ k_656) (va_Nw.use rfl (hE.2.2.2.2.1 ("java/lang/IllegalArgumentException", "java/lang/IllegalArgumentException") (by decide +kernel))) hce hcv hcl ?_
    refine W.eq (g2 := F0 m 13 ls [.ref q9]) (by rfl) ?_
    have hP : va_P D vwCl [] H := fun k q h => by simp at h
    have hD : va_D A [] := hD.sub (ws' := []) [] (by decide) rfl
    have hgo9 := trivial
    refine lv_astore (lv' := [(4, .ref q9), (0, .ref h0), (1, .int sd), (2, .int tm), (3, .ref ou)]) hx hb d_L_winter_13 hl (by decide) rfl (fun ls hl => ?_)
    refine lv_iconst (v := 1) hx hb d_L_winter_15 (by decide) ?_
    exact vx_ret (ret_I (w := []) C hP hD hS [] rfl rfl (Or.inr (⟨hx9, rfl, rfl⟩)) (by decide) (by decide) d_L_winter_16)
  · obtain ⟨hp9, rfl, rfl⟩ := hw9
    have hwb9 := wct_bd (sd := sd) hp9
    have hP : va_P D vwCl [(ou, eJ (ty 3) 1 (fun _ => 0))] H := hP
    have hD : va_D A [(ou, eJ (ty 3) 1 (fun _ => 0))] := hD
    refine lv_i2l (v := (lN (wct tm.toNatClampNeg sd))) hx hb d_L_winter_8 (nI_l (by omega)) ?_
    refine r_last (w := [(ou, eJ (ty 3) 1 (vp_updL (fun _ => 0) 0 (lN (wct tm.toNatClampNeg sd))))]) C hP hD hS 0 rfl 0 rfl (by decide) (by decide) rfl d_L_winter_9 (fun H locs hP hD hS => ?_)
    refine lv_goto (tgt := 17) hx hb d_L_winter_10 (by decide) ?_
    refine lv_iconst (v := 0) hx hb d_L_winter_17 (by decide) ?_
    exact vx_ret (ret_I (w := [(ou, eJ (ty 3) 1 (vp_updL (fun _ => 0) 0 (lN (wct tm.toNatClampNeg sd))))]) C hP hD hS [0] rfl rfl (Or.inl ⟨hp9, rfl, rfl⟩) (by decide) (by decide) d_L_winter_18)
set_option maxHeartbeats 4000000 in
set_option maxRecDepth 100000 in
theorem w_ends (l : Launch) (D : va_G) (ty : Nat → ClassId) (h0 : Nat) (rd : Nat) (ho : Nat) (nw : Nat) (tr : Nat) (ts : Nat) (im : Nat) (g1 : Nat) (g2 : Nat) (g3 : Nat) (n0 : Nat) (n1 : Nat) (n2 : Nat) (n3 : Nat) (b : Int32) (ou : Nat) (hl9 : l.stackTraces = false) : CW l D ty ⟨"PinchedBillLaw", "ends", "(LPinchedBill;I[J)I"⟩ method_12_code 4 (some .int) [(0, 9, 12, 13)] 8 158 16 22369 [.ref h0, .int b, .ref ou] [(h0, eO 8 [.ref rd, .ref ho, .ref nw, .ref tr, .ref ts, .ref im, .null]), (ho, eO 0 [.int 0, .int 1, .int 0, .int 0, .int 0, .int 0, .int 0, .int 0, .int 0, .int 0, .ref g1, .ref g2, .ref g3]), (nw, eO 5 [.ref n0, .int 0, .int 0, .ref n1, .ref n2, .ref n3]), (n0, eO 7 [.int 0, .int (-1)]), (ou, eJ (ty 3) 1 (fun _ => 0))] (QI D ty (fun (r : Int32) (w : va_W) => (((bB b = 1)) ∧ 0 = r ∧ w = [(ou, eJ (ty 3) 1 (vp_updL (fun _ => 0) 0 (b).toInt64))]) ∨ ((¬ ((bB b = 1))) ∧ 1 = r ∧ w = []))) := by
  refine CW_of (by decide) ?_
  intro p e s m below meth c A C hct hP hD hS
  obtain ⟨⟨hx, hb, hml, hown, hts⟩, hr, hlocks, hnm, hK, hE, hA, hZ⟩ := id C
  refine startW [.ref h0, .int b, .ref ou] 4 (nle rfl) (lv := [(0, .ref h0), (1, .int b), (2, .ref ou)]) rfl (fun ls hl => ?_)
  refine lv_aload_n hx hb d_L_ends_0 rfl (lv_at hl 2 rfl) ?_
  refine lv_iconst (v := 0) hx hb d_L_ends_1 (by decide) ?_
  refine lv_aload_n hx hb d_L_ends_2 rfl (lv_at hl 0 rfl) ?_
  refine lv_iload_n hx hb d_L_ends_3 rfl (lv_at hl 1 rfl) ?_
  have ct_1 : Cut [(h0, eO 8 [.ref rd, .ref ho, .ref nw, .ref tr, .ref ts, .ref im, .null]), (ho, eO 0 [.int 0, .int 1, .int 0, .int 0, .int 0, .int 0, .int 0, .int 0, .int 0, .int 0, .ref g1, .ref g2, .ref g3]), (nw, eO 5 [.ref n0, .int 0, .int 0, .ref n1, .ref n2, .ref n3]), (n0, eO 7 [.int 0, .int (-1)]), (ou, eJ (ty 3) 1 (fun _ => 0))] [(h0, eO 8 [.ref rd, .ref ho, .ref nw, .ref tr, .ref ts, .ref im, .null]), (ho, eO 0 [.int 0, .int 1, .int 0, .int 0, .int 0, .int 0, .int 0, .int 0, .int 0, .int 0, .ref g1, .ref g2, .ref g3]), (nw, eO 5 [.ref n0, .int 0, .int 0, .ref n1, .ref n2, .ref n3]), (n0, eO 7 [.int 0, .int (-1)])] [(ou, eJ (ty 3) 1 (fun _ => 0))] [0, 1, 2, 3] [4] := ⟨rfl, rfl, rfl, rfl, by decide⟩
  refine contc_I C hP hD hS ct_1 (runx_V (As := [.int b]) (rest := [.int 0, .ref ou]) C hP hD hS ct_1 (p_ends l D ty h0 rd ho nw tr ts im g1 g2 g3 n0 n1 n2 n3 b hl9) kV_PinchedBillLaw_44 0 rfl rfl rfl rfl hl.1 rfl (nle rfl) d_L_ends_4 ⟨by decide, by decide, by decide, by decide⟩) (fun E ce q9 H locs hpx hS hce hcv hcl => ?_) (fun r9 w9 H locs hw9 hP hD hS => ?_)
  · obtain ⟨rfl, hx9⟩ := hpx
    refine vx_catch (own := "PinchedBillLaw") (name := "java/lang/IllegalArgumentException") hown (tableOf []) ⟨0, 9, 12, 13⟩ (tableOf []) (hct.trans rfl) no_pass rfl (by decide) (hts _ k_656) (va_Nw.use rfl (hE.2.2.2.2.1 ("java/lang/IllegalArgumentException", "java/lang/IllegalArgumentException") (by decide +kernel))) hce hcv hcl ?_
    refine W.eq (g2 := F0 m 12 ls [.ref q9]) (by rfl) ?_
    have hP : va_P D vwCl [] H := fun k q h => by simp at h
    have hD : va_D A [] := hD.sub (ws' := []) [] (by decide) rfl
    have hgo9 := trivial
    refine lv_astore_n (lv' := [(3, .ref q9), (0, .ref h0), (1, .int b), (2, .ref ou)]) hx hb d_L_ends_12 rfl hl (by decide) rfl (fun ls hl => ?_)
    refine lv_iconst (v := 1) hx hb d_L_ends_13 (by decide) ?_
    exact vx_ret (ret_I (w := []) C hP hD hS [] rfl rfl (Or.inr (⟨hx9, rfl, rfl⟩)) (by decide) (by decide) d_L_ends_14)
  · obtain ⟨hp9, rfl, rfl⟩ := hw9
    have hP : va_P D vwCl [(ou, eJ (ty 3) 1 (fun _ => 0))] H := hP
    have hD : va_D A [(ou, eJ (ty 3) 1 (fun _ => 0))] := hD
    refine lv_i2l (v := (b).toInt64) hx hb d_L_ends_7 rfl ?_
    refine r_last (w := [(ou, eJ (ty 3) 1 (vp_updL (fun _ => 0) 0 (b).toInt64))]) C hP hD hS 0 rfl 0 rfl (by decide) (by decide) rfl d_L_ends_8 (fun H locs hP hD hS => ?_)
    refine lv_goto (tgt := 15) hx hb d_L_ends_9 (by decide) ?_
    refine lv_iconst (v := 0) hx hb d_L_ends_15 (by decide) ?_
    exact vx_ret (ret_I (w := [(ou, eJ (ty 3) 1 (vp_updL (fun _ => 0) 0 (b).toInt64))]) C hP hD hS [0] rfl rfl (Or.inl ⟨hp9, rfl, rfl⟩) (by decide) (by decide) d_L_ends_16)
set_option maxHeartbeats 4000000 in
set_option maxRecDepth 100000 in
theorem w_takes (l : Launch) (D : va_G) (ty : Nat → ClassId) (h0 : Nat) (rd : Nat) (ho : Nat) (nw : Nat) (tr : Nat) (ts : Nat) (im : Nat) (g1 : Nat) (g2 : Nat) (g3 : Nat) (n0 : Nat) (n1 : Nat) (n2 : Nat) (n3 : Nat) (b : Int32) (ou : Nat) (hl9 : l.stackTraces = false) : CW l D ty ⟨"PinchedBillLaw", "takes", "(LPinchedBill;I[J)I"⟩ method_13_code 4 (some .int) [(0, 9, 12, 13)] 8 159 16 22369 [.ref h0, .int b, .ref ou] [(h0, eO 8 [.ref rd, .ref ho, .ref nw, .ref tr, .ref ts, .ref im, .null]), (ho, eO 0 [.int 0, .int 1, .int 0, .int 0, .int 0, .int 0, .int 0, .int 0, .int 0, .int 0, .ref g1, .ref g2, .ref g3]), (nw, eO 5 [.ref n0, .int 0, .int 0, .ref n1, .ref n2, .ref n3]), (n0, eO 7 [.int 0, .int (-1)]), (ou, eJ (ty 3) 1 (fun _ => 0))] (QI D ty (fun (r : Int32) (w : va_W) => (((bB b = 1)) ∧ 0 = r ∧ w = [(ou, eJ (ty 3) 1 (vp_updL (fun _ => 0) 0 0))]) ∨ ((¬ ((bB b = 1))) ∧ 1 = r ∧ w = []))) := by
  refine CW_of (by decide) ?_
  intro p e s m below meth c A C hct hP hD hS
  obtain ⟨⟨hx, hb, hml, hown, hts⟩, hr, hlocks, hnm, hK, hE, hA, hZ⟩ := id C
  refine startW [.ref h0, .int b, .ref ou] 4 (nle rfl) (lv := [(0, .ref h0), (1, .int b), (2, .ref ou)]) rfl (fun ls hl => ?_)
  refine lv_aload_n hx hb d_L_takes_0 rfl (lv_at hl 2 rfl) ?_
  refine lv_iconst (v := 0) hx hb d_L_takes_1 (by decide) ?_
  refine lv_aload_n hx hb d_L_takes_2 rfl (lv_at hl 0 rfl) ?_
  refine lv_iload_n hx hb d_L_takes_3 rfl (lv_at hl 1 rfl) ?_
  have ct_1 : Cut [(h0, eO 8 [.ref rd, .ref ho, .ref nw, .ref tr, .ref ts, .ref im, .null]), (ho, eO 0 [.int 0, .int 1, .int 0, .int 0, .int 0, .int 0, .int 0, .int 0, .int 0, .int 0, .ref g1, .ref g2, .ref g3]), (nw, eO 5 [.ref n0, .int 0, .int 0, .ref n1, .ref n2, .ref n3]), (n0, eO 7 [.int 0, .int (-1)]), (ou, eJ (ty 3) 1 (fun _ => 0))] [(h0, eO 8 [.ref rd, .ref ho, .ref nw, .ref tr, .ref ts, .ref im, .null]), (ho, eO 0 [.int 0, .int 1, .int 0, .int 0, .int 0, .int 0, .int 0, .int 0, .int 0, .int 0, .ref g1, .ref g2, .ref g3]), (nw, eO 5 [.ref n0, .int 0, .int 0, .ref n1, .ref n2, .ref n3]), (n0, eO 7 [.int 0, .int (-1)])] [(ou, eJ (ty 3) 1 (fun _ => 0))] [0, 1, 2, 3] [4] := ⟨rfl, rfl, rfl, rfl, by decide⟩
  refine contc_I C hP hD hS ct_1 (runx_V (As := [.int b]) (rest := [.int 0, .ref ou]) C hP hD hS ct_1 (p_takes l D ty h0 rd ho nw tr ts im g1 g2 g3 n0 n1 n2 n3 b hl9) kV_PinchedBillLaw_47 0 rfl rfl rfl rfl hl.1 rfl (nle rfl) d_L_takes_4 ⟨by decide, by decide, by decide, by decide⟩) (fun E ce q9 H locs hpx hS hce hcv hcl => ?_) (fun r9 w9 H locs hw9 hP hD hS => ?_)
  · obtain ⟨rfl, hx9⟩ := hpx
    refine vx_catch (own := "PinchedBillLaw") (name := "java/lang/IllegalArgumentException") hown (tableOf []) ⟨0, 9, 12, 13⟩ (tableOf []) (hct.trans rfl) no_pass rfl (by decide) (hts _ k_656) (va_Nw.use rfl (hE.2.2.2.2.1 ("java/lang/IllegalArgumentException", "java/lang/IllegalArgumentException") (by decide +kernel))) hce hcv hcl ?_
    refine W.eq (g2 := F0 m 12 ls [.ref q9]) (by rfl) ?_
    have hP : va_P D vwCl [] H := fun k q h => by simp at h
    have hD : va_D A [] := hD.sub (ws' := []) [] (by decide) rfl
    have hgo9 := trivial
    refine lv_astore_n (lv' := [(3, .ref q9), (0, .ref h0), (1, .int b), (2, .ref ou)]) hx hb d_L_takes_12 rfl hl (by decide) rfl (fun ls hl => ?_)
    refine lv_iconst (v := 1) hx hb d_L_takes_13 (by decide) ?_
    exact vx_ret (ret_I (w := []) C hP hD hS [] rfl rfl (Or.inr (⟨hx9, rfl, rfl⟩)) (by decide) (by decide) d_L_takes_14)
  · obtain ⟨hp9, rfl, rfl⟩ := hw9
    have hP : va_P D vwCl [(ou, eJ (ty 3) 1 (fun _ => 0))] H := hP
    have hD : va_D A [(ou, eJ (ty 3) 1 (fun _ => 0))] := hD
    refine lv_i2l (v := 0) hx hb d_L_takes_7 (by decide) ?_
    refine r_last (w := [(ou, eJ (ty 3) 1 (vp_updL (fun _ => 0) 0 0))]) C hP hD hS 0 rfl 0 rfl (by decide) (by decide) rfl d_L_takes_8 (fun H locs hP hD hS => ?_)
    refine lv_goto (tgt := 15) hx hb d_L_takes_9 (by decide) ?_
    refine lv_iconst (v := 0) hx hb d_L_takes_15 (by decide) ?_
    exact vx_ret (ret_I (w := [(ou, eJ (ty 3) 1 (vp_updL (fun _ => 0) 0 0))]) C hP hD hS [0] rfl rfl (Or.inl ⟨hp9, rfl, rfl⟩) (by decide) (by decide) d_L_takes_16)
set_option maxHeartbeats 4000000 in
set_option maxRecDepth 100000 in
theorem w_goes (l : Launch) (D : va_G) (ty : Nat → ClassId) (h0 : Nat) (rd : Nat) (ho : Nat) (nw : Nat) (tr : Nat) (ts : Nat) (im : Nat) (g1 : Nat) (g2 : Nat) (g3 : Nat) (n0 : Nat) (n1 : Nat) (n2 : Nat) (n3 : Nat) (b : Int32) (n : Int32) (ou : Nat) (hl9 : l.stackTraces = false) : CW l D ty ⟨"PinchedBillLaw", "goes", "(LPinchedBill;II[J)I"⟩ method_14_code 5 (some .int) [(0, 10, 13, 13)] 8 159 17 22375 [.ref h0, .int b, .int n, .ref ou] [(h0, eO 8 [.ref rd, .ref ho, .ref nw, .ref tr, .ref ts, .ref im, .null]), (ho, eO 0 [.int 0, .int 1, .int 0, .int 0, .int 0, .int 0, .int 0, .int 0, .int 0, .int 0, .ref g1, .ref g2, .ref g3]), (nw, eO 5 [.ref n0, .int 0, .int 0, .ref n1, .ref n2, .ref n3]), (n0, eO 7 [.int 0, .int (-1)]), (ou, eJ (ty 3) 1 (fun _ => 0))] (QI D ty (fun (r : Int32) (w : va_W) => (((bB b = 1) ∧ (¬ n < 0 ∧ ¬ 9999 < n)) ∧ 0 = r ∧ w = [(ou, eJ (ty 3) 1 (vp_updL (fun _ => 0) 0 (b).toInt64))]) ∨ ((¬ ((bB b = 1) ∧ (¬ n < 0 ∧ ¬ 9999 < n))) ∧ 1 = r ∧ w = []))) := by
  refine CW_of (by decide) ?_
  intro p e s m below meth c A C hct hP hD hS
  obtain ⟨⟨hx, hb, hml, hown, hts⟩, hr, hlocks, hnm, hK, hE, hA, hZ⟩ := id C
  refine startW [.ref h0, .int b, .int n, .ref ou] 5 (nle rfl) (lv := [(0, .ref h0), (1, .int b), (2, .int n), (3, .ref ou)]) rfl (fun ls hl => ?_)
  refine lv_aload_n hx hb d_L_goes_0 rfl (lv_at hl 3 rfl) ?_
  refine lv_iconst (v := 0) hx hb d_L_goes_1 (by decide) ?_
  refine lv_aload_n hx hb d_L_goes_2 rfl (lv_at hl 0 rfl) ?_
  refine lv_iload_n hx hb d_L_goes_3 rfl (lv_at hl 1 rfl) ?_
  refine lv_iload_n hx hb d_L_goes_4 rfl (lv_at hl 2 rfl) ?_
  have ct_1 : Cut [(h0, eO 8 [.ref rd, .ref ho, .ref nw, .ref tr, .ref ts, .ref im, .null]), (ho, eO 0 [.int 0, .int 1, .int 0, .int 0, .int 0, .int 0, .int 0, .int 0, .int 0, .int 0, .ref g1, .ref g2, .ref g3]), (nw, eO 5 [.ref n0, .int 0, .int 0, .ref n1, .ref n2, .ref n3]), (n0, eO 7 [.int 0, .int (-1)]), (ou, eJ (ty 3) 1 (fun _ => 0))] [(h0, eO 8 [.ref rd, .ref ho, .ref nw, .ref tr, .ref ts, .ref im, .null]), (ho, eO 0 [.int 0, .int 1, .int 0, .int 0, .int 0, .int 0, .int 0, .int 0, .int 0, .int 0, .ref g1, .ref g2, .ref g3]), (nw, eO 5 [.ref n0, .int 0, .int 0, .ref n1, .ref n2, .ref n3]), (n0, eO 7 [.int 0, .int (-1)])] [(ou, eJ (ty 3) 1 (fun _ => 0))] [0, 1, 2, 3] [4] := ⟨rfl, rfl, rfl, rfl, by decide⟩
  refine contc_I C hP hD hS ct_1 (runx_V (As := [.int b, .int n]) (rest := [.int 0, .ref ou]) C hP hD hS ct_1 (p_goes l D ty h0 rd ho nw tr ts im g1 g2 g3 n0 n1 n2 n3 b n hl9) kV_PinchedBillLaw_50 0 rfl rfl rfl rfl hl.1 rfl (nle rfl) d_L_goes_5 ⟨by decide, by decide, by decide, by decide⟩) (fun E ce q9 H locs hpx hS hce hcv hcl => ?_) (fun r9 w9 H locs hw9 hP hD hS => ?_)
  · obtain ⟨rfl, hx9⟩ := hpx
    refine vx_catch (own := "PinchedBillLaw") (name := "java/lang/IllegalArgumentException") hown (tableOf []) ⟨0, 10, 13, 13⟩ (tableOf []) (hct.trans rfl) no_pass rfl (by decide) (hts _ k_656) (va_Nw.use rfl (hE.2.2.2.2.1 ("java/lang/IllegalArgumentException", "java/lang/IllegalArgumentException") (by decide +kernel))) hce hcv hcl ?_
    refine W.eq (g2 := F0 m 13 ls [.ref q9]) (by rfl) ?_
    have hP : va_P D vwCl [] H := fun k q h => by simp at h
    have hD : va_D A [] := hD.sub (ws' := []) [] (by decide) rfl
    have hgo9 := trivial
    refine lv_astore (lv' := [(4, .ref q9), (0, .ref h0), (1, .int b), (2, .int n), (3, .ref ou)]) hx hb d_L_goes_13 hl (by decide) rfl (fun ls hl => ?_)
    refine lv_iconst (v := 1) hx hb d_L_goes_15 (by decide) ?_
    exact vx_ret (ret_I (w := []) C hP hD hS [] rfl rfl (Or.inr (⟨hx9, rfl, rfl⟩)) (by decide) (by decide) d_L_goes_16)
  · obtain ⟨hp9, rfl, rfl⟩ := hw9
    have hP : va_P D vwCl [(ou, eJ (ty 3) 1 (fun _ => 0))] H := hP
    have hD : va_D A [(ou, eJ (ty 3) 1 (fun _ => 0))] := hD
    refine lv_i2l (v := (b).toInt64) hx hb d_L_goes_8 rfl ?_
    refine r_last (w := [(ou, eJ (ty 3) 1 (vp_updL (fun _ => 0) 0 (b).toInt64))]) C hP hD hS 0 rfl 0 rfl (by decide) (by decide) rfl d_L_goes_9 (fun H locs hP hD hS => ?_)
    refine lv_goto (tgt := 17) hx hb d_L_goes_10 (by decide) ?_
    refine lv_iconst (v := 0) hx hb d_L_goes_17 (by decide) ?_
    exact vx_ret (ret_I (w := [(ou, eJ (ty 3) 1 (vp_updL (fun _ => 0) 0 (b).toInt64))]) C hP hD hS [0] rfl rfl (Or.inl ⟨hp9, rfl, rfl⟩) (by decide) (by decide) d_L_goes_18)
set_option maxHeartbeats 4000000 in
set_option maxRecDepth 100000 in
theorem w_ring (l : Launch) (D : va_G) (ty : Nat → ClassId) (h0 : Nat) (rd : Nat) (ho : Nat) (nw : Nat) (tr : Nat) (ts : Nat) (im : Nat) (g1 : Nat) (g2 : Nat) (g3 : Nat) (n0 : Nat) (n1 : Nat) (n2 : Nat) (n3 : Nat) (b : Int32) (wh : Int32) (ou : Nat) (hl9 : l.stackTraces = false) : CW l D ty ⟨"PinchedBillLaw", "ring", "(LPinchedBill;II[J)I"⟩ method_15_code 5 (some .int) [(0, 10, 13, 13)] 8 162 17 22375 [.ref h0, .int b, .int wh, .ref ou] [(h0, eO 8 [.ref rd, .ref ho, .ref nw, .ref tr, .ref ts, .ref im, .null]), (ho, eO 0 [.int 0, .int 1, .int 0, .int 0, .int 0, .int 0, .int 0, .int 0, .int 0, .int 0, .ref g1, .ref g2, .ref g3]), (nw, eO 5 [.ref n0, .int 0, .int 0, .ref n1, .ref n2, .ref n3]), (n0, eO 7 [.int 0, .int (-1)]), (ou, eJ (ty 3) 1 (fun _ => 0))] (QI D ty (fun (r : Int32) (w : va_W) => (((bB b = 1) ∧ (wh = 0 ∨ wh = 1 ∨ (¬ wh < 10 ∧ ¬ 19 < wh))) ∧ 0 = r ∧ w = [(ou, eJ (ty 3) 1 (vp_updL (fun _ => 0) 0 (-1)))]) ∨ ((¬ ((bB b = 1) ∧ (wh = 0 ∨ wh = 1 ∨ (¬ wh < 10 ∧ ¬ 19 < wh)))) ∧ 1 = r ∧ w = []))) := by
  refine CW_of (by decide) ?_
  intro p e s m below meth c A C hct hP hD hS
  obtain ⟨⟨hx, hb, hml, hown, hts⟩, hr, hlocks, hnm, hK, hE, hA, hZ⟩ := id C
  refine startW [.ref h0, .int b, .int wh, .ref ou] 5 (nle rfl) (lv := [(0, .ref h0), (1, .int b), (2, .int wh), (3, .ref ou)]) rfl (fun ls hl => ?_)
  refine lv_aload_n hx hb d_L_ring_0 rfl (lv_at hl 3 rfl) ?_
  refine lv_iconst (v := 0) hx hb d_L_ring_1 (by decide) ?_
  refine lv_aload_n hx hb d_L_ring_2 rfl (lv_at hl 0 rfl) ?_
  refine lv_iload_n hx hb d_L_ring_3 rfl (lv_at hl 1 rfl) ?_
  refine lv_iload_n hx hb d_L_ring_4 rfl (lv_at hl 2 rfl) ?_
  have ct_1 : Cut [(h0, eO 8 [.ref rd, .ref ho, .ref nw, .ref tr, .ref ts, .ref im, .null]), (ho, eO 0 [.int 0, .int 1, .int 0, .int 0, .int 0, .int 0, .int 0, .int 0, .int 0, .int 0, .ref g1, .ref g2, .ref g3]), (nw, eO 5 [.ref n0, .int 0, .int 0, .ref n1, .ref n2, .ref n3]), (n0, eO 7 [.int 0, .int (-1)]), (ou, eJ (ty 3) 1 (fun _ => 0))] [(h0, eO 8 [.ref rd, .ref ho, .ref nw, .ref tr, .ref ts, .ref im, .null]), (ho, eO 0 [.int 0, .int 1, .int 0, .int 0, .int 0, .int 0, .int 0, .int 0, .int 0, .int 0, .ref g1, .ref g2, .ref g3]), (nw, eO 5 [.ref n0, .int 0, .int 0, .ref n1, .ref n2, .ref n3]), (n0, eO 7 [.int 0, .int (-1)])] [(ou, eJ (ty 3) 1 (fun _ => 0))] [0, 1, 2, 3] [4] := ⟨rfl, rfl, rfl, rfl, by decide⟩
  refine contc_I C hP hD hS ct_1 (runx_V (As := [.int b, .int wh]) (rest := [.int 0, .ref ou]) C hP hD hS ct_1 (p_ring l D ty h0 rd ho nw tr ts im g1 g2 g3 n0 n1 n2 n3 b wh hl9) kV_PinchedBillLaw_53 0 rfl rfl rfl rfl hl.1 rfl (nle rfl) d_L_ring_5 ⟨by decide, by decide, by decide, by decide⟩) (fun E ce q9 H locs hpx hS hce hcv hcl => ?_) (fun r9 w9 H locs hw9 hP hD hS => ?_)
  · obtain ⟨rfl, hx9⟩ := hpx
    refine vx_catch (own := "PinchedBillLaw") (name := "java/lang/IllegalArgumentException") hown (tableOf []) ⟨0, 10, 13, 13⟩ (tableOf []) (hct.trans rfl) no_pass rfl (by decide) (hts _ k_656) (va_Nw.use rfl (hE.2.2.2.2.1 ("java/lang/IllegalArgumentException", "java/lang/IllegalArgumentException") (by decide +kernel))) hce hcv hcl ?_
    refine W.eq (g2 := F0 m 13 ls [.ref q9]) (by rfl) ?_
    have hP : va_P D vwCl [] H := fun k q h => by simp at h
    have hD : va_D A [] := hD.sub (ws' := []) [] (by decide) rfl
    have hgo9 := trivial
    refine lv_astore (lv' := [(4, .ref q9), (0, .ref h0), (1, .int b), (2, .int wh), (3, .ref ou)]) hx hb d_L_ring_13 hl (by decide) rfl (fun ls hl => ?_)
    refine lv_iconst (v := 1) hx hb d_L_ring_15 (by decide) ?_
    exact vx_ret (ret_I (w := []) C hP hD hS [] rfl rfl (Or.inr (⟨hx9, rfl, rfl⟩)) (by decide) (by decide) d_L_ring_16)
  · obtain ⟨hp9, rfl, rfl⟩ := hw9
    have hP : va_P D vwCl [(ou, eJ (ty 3) 1 (fun _ => 0))] H := hP
    have hD : va_D A [(ou, eJ (ty 3) 1 (fun _ => 0))] := hD
    refine lv_i2l (v := (-1)) hx hb d_L_ring_8 (by decide) ?_
    refine r_last (w := [(ou, eJ (ty 3) 1 (vp_updL (fun _ => 0) 0 (-1)))]) C hP hD hS 0 rfl 0 rfl (by decide) (by decide) rfl d_L_ring_9 (fun H locs hP hD hS => ?_)
    refine lv_goto (tgt := 17) hx hb d_L_ring_10 (by decide) ?_
    refine lv_iconst (v := 0) hx hb d_L_ring_17 (by decide) ?_
    exact vx_ret (ret_I (w := [(ou, eJ (ty 3) 1 (vp_updL (fun _ => 0) 0 (-1)))]) C hP hD hS [0] rfl rfl (Or.inl ⟨hp9, rfl, rfl⟩) (by decide) (by decide) d_L_ring_18)
set_option maxHeartbeats 4000000 in
set_option maxRecDepth 100000 in
theorem w_law (l : Launch) (D : va_G) (ty : Nat → ClassId) (h0 : Nat) (rd : Nat) (ho : Nat) (nw : Nat) (tr : Nat) (ts : Nat) (im : Nat) (g1 : Nat) (g2 : Nat) (g3 : Nat) (n0 : Nat) (n1 : Nat) (n2 : Nat) (n3 : Nat) (kk : Int32) (ou : Nat) (hl9 : l.stackTraces = false) : CW l D ty ⟨"PinchedBillLaw", "law", "(LPinchedBill;I[J)I"⟩ method_16_code 4 (some .int) [(0, 9, 12, 13)] 8 134 16 22369 [.ref h0, .int kk, .ref ou] [(h0, eO 8 [.ref rd, .ref ho, .ref nw, .ref tr, .ref ts, .ref im, .null]), (ho, eO 0 [.int 0, .int 1, .int 0, .int 0, .int 0, .int 0, .int 0, .int 0, .int 0, .int 0, .ref g1, .ref g2, .ref g3]), (nw, eO 5 [.ref n0, .int 0, .int 0, .ref n1, .ref n2, .ref n3]), (n0, eO 7 [.int 0, .int (-1)]), (ou, eJ (ty 3) 1 (fun _ => 0))] (QI D ty (fun (r : Int32) (w : va_W) => (((¬ kk < 0)) ∧ 0 = r ∧ w = [(ou, eJ (ty 3) 1 (vp_updL (fun _ => 0) 0 ((fA kk.toNatClampNeg)).toInt64))]) ∨ ((¬ ((¬ kk < 0))) ∧ 1 = r ∧ w = []))) := by
  refine CW_of (by decide) ?_
  intro p e s m below meth c A C hct hP hD hS
  obtain ⟨⟨hx, hb, hml, hown, hts⟩, hr, hlocks, hnm, hK, hE, hA, hZ⟩ := id C
  refine startW [.ref h0, .int kk, .ref ou] 4 (nle rfl) (lv := [(0, .ref h0), (1, .int kk), (2, .ref ou)]) rfl (fun ls hl => ?_)
  refine lv_aload_n hx hb d_L_law_0 rfl (lv_at hl 2 rfl) ?_
  refine lv_iconst (v := 0) hx hb d_L_law_1 (by decide) ?_
  refine lv_aload_n hx hb d_L_law_2 rfl (lv_at hl 0 rfl) ?_
  refine lv_iload_n hx hb d_L_law_3 rfl (lv_at hl 1 rfl) ?_
  have ct_1 : Cut [(h0, eO 8 [.ref rd, .ref ho, .ref nw, .ref tr, .ref ts, .ref im, .null]), (ho, eO 0 [.int 0, .int 1, .int 0, .int 0, .int 0, .int 0, .int 0, .int 0, .int 0, .int 0, .ref g1, .ref g2, .ref g3]), (nw, eO 5 [.ref n0, .int 0, .int 0, .ref n1, .ref n2, .ref n3]), (n0, eO 7 [.int 0, .int (-1)]), (ou, eJ (ty 3) 1 (fun _ => 0))] [(h0, eO 8 [.ref rd, .ref ho, .ref nw, .ref tr, .ref ts, .ref im, .null]), (ho, eO 0 [.int 0, .int 1, .int 0, .int 0, .int 0, .int 0, .int 0, .int 0, .int 0, .int 0, .ref g1, .ref g2, .ref g3]), (nw, eO 5 [.ref n0, .int 0, .int 0, .ref n1, .ref n2, .ref n3]), (n0, eO 7 [.int 0, .int (-1)])] [(ou, eJ (ty 3) 1 (fun _ => 0))] [0, 1, 2, 3] [4] := ⟨rfl, rfl, rfl, rfl, by decide⟩
  refine contc_I C hP hD hS ct_1 (runx_V (As := [.int kk]) (rest := [.int 0, .ref ou]) C hP hD hS ct_1 (p_law l D ty h0 rd ho nw tr ts im g1 g2 g3 n0 n1 n2 n3 kk hl9) kV_PinchedBillLaw_56 0 rfl rfl rfl rfl hl.1 rfl (nle rfl) d_L_law_4 ⟨by decide, by decide, by decide, by decide⟩) (fun E ce q9 H locs hpx hS hce hcv hcl => ?_) (fun r9 w9 H locs hw9 hP hD hS => ?_)
  · obtain ⟨rfl, hx9⟩ := hpx
    refine vx_catch (own := "PinchedBillLaw") (name := "java/lang/IllegalArgumentException") hown (tableOf []) ⟨0, 9, 12, 13⟩ (tableOf []) (hct.trans rfl) no_pass rfl (by decide) (hts _ k_656) (va_Nw.use rfl (hE.2.2.2.2.1 ("java/lang/IllegalArgumentException", "java/lang/IllegalArgumentException") (by decide +kernel))) hce hcv hcl ?_
    refine W.eq (g2 := F0 m 12 ls [.ref q9]) (by rfl) ?_
    have hP : va_P D vwCl [] H := fun k q h => by simp at h
    have hD : va_D A [] := hD.sub (ws' := []) [] (by decide) rfl
    have hgo9 := trivial
    refine lv_astore_n (lv' := [(3, .ref q9), (0, .ref h0), (1, .int kk), (2, .ref ou)]) hx hb d_L_law_12 rfl hl (by decide) rfl (fun ls hl => ?_)
    refine lv_iconst (v := 1) hx hb d_L_law_13 (by decide) ?_
    exact vx_ret (ret_I (w := []) C hP hD hS [] rfl rfl (Or.inr (⟨hx9, rfl, rfl⟩)) (by decide) (by decide) d_L_law_14)
  · obtain ⟨hp9, rfl, rfl⟩ := hw9
    have hP : va_P D vwCl [(ou, eJ (ty 3) 1 (fun _ => 0))] H := hP
    have hD : va_D A [(ou, eJ (ty 3) 1 (fun _ => 0))] := hD
    refine lv_i2l (v := ((fA kk.toNatClampNeg)).toInt64) hx hb d_L_law_7 rfl ?_
    refine r_last (w := [(ou, eJ (ty 3) 1 (vp_updL (fun _ => 0) 0 ((fA kk.toNatClampNeg)).toInt64))]) C hP hD hS 0 rfl 0 rfl (by decide) (by decide) rfl d_L_law_8 (fun H locs hP hD hS => ?_)
    refine lv_goto (tgt := 15) hx hb d_L_law_9 (by decide) ?_
    refine lv_iconst (v := 0) hx hb d_L_law_15 (by decide) ?_
    exact vx_ret (ret_I (w := [(ou, eJ (ty 3) 1 (vp_updL (fun _ => 0) 0 ((fA kk.toNatClampNeg)).toInt64))]) C hP hD hS [0] rfl rfl (Or.inl ⟨hp9, rfl, rfl⟩) (by decide) (by decide) d_L_law_16)
set_option maxHeartbeats 4000000 in
set_option maxRecDepth 100000 in
theorem w_into (l : Launch) (D : va_G) (ty : Nat → ClassId) (h0 : Nat) (rd : Nat) (ho : Nat) (nw : Nat) (tr : Nat) (ts : Nat) (im : Nat) (g1 : Nat) (g2 : Nat) (g3 : Nat) (n0 : Nat) (n1 : Nat) (n2 : Nat) (n3 : Nat) (b : Int32) (ou : Nat) (hl9 : l.stackTraces = false) : CW l D ty ⟨"PinchedBillLaw", "into", "(LPinchedBill;I[J)I"⟩ method_17_code 4 (some .int) [(0, 9, 12, 13)] 8 183 16 22369 [.ref h0, .int b, .ref ou] [(h0, eO 8 [.ref rd, .ref ho, .ref nw, .ref tr, .ref ts, .ref im, .null]), (ho, eO 0 [.int 0, .int 1, .int 0, .int 0, .int 0, .int 0, .int 0, .int 0, .int 0, .int 0, .ref g1, .ref g2, .ref g3]), (nw, eO 5 [.ref n0, .int 0, .int 0, .ref n1, .ref n2, .ref n3]), (n0, eO 7 [.int 0, .int (-1)]), (ou, eJ (ty 3) 1 (fun _ => 0))] (QI D ty (fun (r : Int32) (w : va_W) => (((bB b = 1)) ∧ 0 = r ∧ w = [(ou, eJ (ty 3) 1 (vp_updL (fun _ => 0) 0 1))]) ∨ ((¬ ((bB b = 1))) ∧ 1 = r ∧ w = []))) := by
  refine CW_of (by decide) ?_
  intro p e s m below meth c A C hct hP hD hS
  obtain ⟨⟨hx, hb, hml, hown, hts⟩, hr, hlocks, hnm, hK, hE, hA, hZ⟩ := id C
  refine startW [.ref h0, .int b, .ref ou] 4 (nle rfl) (lv := [(0, .ref h0), (1, .int b), (2, .ref ou)]) rfl (fun ls hl => ?_)
  refine lv_aload_n hx hb d_L_into_0 rfl (lv_at hl 2 rfl) ?_
  refine lv_iconst (v := 0) hx hb d_L_into_1 (by decide) ?_
  refine lv_aload_n hx hb d_L_into_2 rfl (lv_at hl 0 rfl) ?_
  refine lv_iload_n hx hb d_L_into_3 rfl (lv_at hl 1 rfl) ?_
  have ct_1 : Cut [(h0, eO 8 [.ref rd, .ref ho, .ref nw, .ref tr, .ref ts, .ref im, .null]), (ho, eO 0 [.int 0, .int 1, .int 0, .int 0, .int 0, .int 0, .int 0, .int 0, .int 0, .int 0, .ref g1, .ref g2, .ref g3]), (nw, eO 5 [.ref n0, .int 0, .int 0, .ref n1, .ref n2, .ref n3]), (n0, eO 7 [.int 0, .int (-1)]), (ou, eJ (ty 3) 1 (fun _ => 0))] [(h0, eO 8 [.ref rd, .ref ho, .ref nw, .ref tr, .ref ts, .ref im, .null]), (ho, eO 0 [.int 0, .int 1, .int 0, .int 0, .int 0, .int 0, .int 0, .int 0, .int 0, .int 0, .ref g1, .ref g2, .ref g3]), (nw, eO 5 [.ref n0, .int 0, .int 0, .ref n1, .ref n2, .ref n3]), (n0, eO 7 [.int 0, .int (-1)])] [(ou, eJ (ty 3) 1 (fun _ => 0))] [0, 1, 2, 3] [4] := ⟨rfl, rfl, rfl, rfl, by decide⟩
  refine contc_I C hP hD hS ct_1 (runx_V (As := [.int b]) (rest := [.int 0, .ref ou]) C hP hD hS ct_1 (p_into l D ty h0 rd ho nw tr ts im g1 g2 g3 n0 n1 n2 n3 b hl9) kV_PinchedBillLaw_59 0 rfl rfl rfl rfl hl.1 rfl (nle rfl) d_L_into_4 ⟨by decide, by decide, by decide, by decide⟩) (fun E ce q9 H locs hpx hS hce hcv hcl => ?_) (fun r9 w9 H locs hw9 hP hD hS => ?_)
  · obtain ⟨rfl, hx9⟩ := hpx
    refine vx_catch (own := "PinchedBillLaw") (name := "java/lang/IllegalArgumentException") hown (tableOf []) ⟨0, 9, 12, 13⟩ (tableOf []) (hct.trans rfl) no_pass rfl (by decide) (hts _ k_656) (va_Nw.use rfl (hE.2.2.2.2.1 ("java/lang/IllegalArgumentException", "java/lang/IllegalArgumentException") (by decide +kernel))) hce hcv hcl ?_
    refine W.eq (g2 := F0 m 12 ls [.ref q9]) (by rfl) ?_
    have hP : va_P D vwCl [] H := fun k q h => by simp at h
    have hD : va_D A [] := hD.sub (ws' := []) [] (by decide) rfl
    have hgo9 := trivial
    refine lv_astore_n (lv' := [(3, .ref q9), (0, .ref h0), (1, .int b), (2, .ref ou)]) hx hb d_L_into_12 rfl hl (by decide) rfl (fun ls hl => ?_)
    refine lv_iconst (v := 1) hx hb d_L_into_13 (by decide) ?_
    exact vx_ret (ret_I (w := []) C hP hD hS [] rfl rfl (Or.inr (⟨hx9, rfl, rfl⟩)) (by decide) (by decide) d_L_into_14)
  · obtain ⟨hp9, rfl, rfl⟩ := hw9
    have hP : va_P D vwCl [(ou, eJ (ty 3) 1 (fun _ => 0))] H := hP
    have hD : va_D A [(ou, eJ (ty 3) 1 (fun _ => 0))] := hD
    refine lv_i2l (v := 1) hx hb d_L_into_7 (by decide) ?_
    refine r_last (w := [(ou, eJ (ty 3) 1 (vp_updL (fun _ => 0) 0 1))]) C hP hD hS 0 rfl 0 rfl (by decide) (by decide) rfl d_L_into_8 (fun H locs hP hD hS => ?_)
    refine lv_goto (tgt := 15) hx hb d_L_into_9 (by decide) ?_
    refine lv_iconst (v := 0) hx hb d_L_into_15 (by decide) ?_
    exact vx_ret (ret_I (w := [(ou, eJ (ty 3) 1 (vp_updL (fun _ => 0) 0 1))]) C hP hD hS [0] rfl rfl (Or.inl ⟨hp9, rfl, rfl⟩) (by decide) (by decide) d_L_into_16)
set_option maxHeartbeats 4000000 in
set_option maxRecDepth 100000 in
theorem w_nearest (l : Launch) (D : va_G) (ty : Nat → ClassId) (h0 : Nat) (rd : Nat) (ho : Nat) (nw : Nat) (tr : Nat) (ts : Nat) (im : Nat) (g1 : Nat) (g2 : Nat) (g3 : Nat) (n0 : Nat) (n1 : Nat) (n2 : Nat) (n3 : Nat) (b : Int32) (ou : Nat) (hl9 : l.stackTraces = false) : CW l D ty ⟨"PinchedBillLaw", "nearest", "(LPinchedBill;I[J)I"⟩ method_18_code 4 (some .int) [(0, 9, 12, 13)] 8 139 16 22369 [.ref h0, .int b, .ref ou] [(h0, eO 8 [.ref rd, .ref ho, .ref nw, .ref tr, .ref ts, .ref im, .null]), (ho, eO 0 [.int 0, .int 1, .int 0, .int 0, .int 0, .int 0, .int 0, .int 0, .int 0, .int 0, .ref g1, .ref g2, .ref g3]), (nw, eO 5 [.ref n0, .int 0, .int 0, .ref n1, .ref n2, .ref n3]), (n0, eO 7 [.int 0, .int (-1)]), (ou, eJ (ty 3) 1 (fun _ => 0))] (QI D ty (fun (r : Int32) (w : va_W) => (((bB b = 1)) ∧ 0 = r ∧ w = [(ou, eJ (ty 3) 1 (vp_updL (fun _ => 0) 0 (b).toInt64))]) ∨ ((¬ ((bB b = 1))) ∧ 1 = r ∧ w = []))) := by
  refine CW_of (by decide) ?_
  intro p e s m below meth c A C hct hP hD hS
  obtain ⟨⟨hx, hb, hml, hown, hts⟩, hr, hlocks, hnm, hK, hE, hA, hZ⟩ := id C
  refine startW [.ref h0, .int b, .ref ou] 4 (nle rfl) (lv := [(0, .ref h0), (1, .int b), (2, .ref ou)]) rfl (fun ls hl => ?_)
  refine lv_aload_n hx hb d_L_nearest_0 rfl (lv_at hl 2 rfl) ?_
  refine lv_iconst (v := 0) hx hb d_L_nearest_1 (by decide) ?_
  refine lv_aload_n hx hb d_L_nearest_2 rfl (lv_at hl 0 rfl) ?_
  refine lv_iload_n hx hb d_L_nearest_3 rfl (lv_at hl 1 rfl) ?_
  have ct_1 : Cut [(h0, eO 8 [.ref rd, .ref ho, .ref nw, .ref tr, .ref ts, .ref im, .null]), (ho, eO 0 [.int 0, .int 1, .int 0, .int 0, .int 0, .int 0, .int 0, .int 0, .int 0, .int 0, .ref g1, .ref g2, .ref g3]), (nw, eO 5 [.ref n0, .int 0, .int 0, .ref n1, .ref n2, .ref n3]), (n0, eO 7 [.int 0, .int (-1)]), (ou, eJ (ty 3) 1 (fun _ => 0))] [(h0, eO 8 [.ref rd, .ref ho, .ref nw, .ref tr, .ref ts, .ref im, .null]), (ho, eO 0 [.int 0, .int 1, .int 0, .int 0, .int 0, .int 0, .int 0, .int 0, .int 0, .int 0, .ref g1, .ref g2, .ref g3]), (nw, eO 5 [.ref n0, .int 0, .int 0, .ref n1, .ref n2, .ref n3]), (n0, eO 7 [.int 0, .int (-1)])] [(ou, eJ (ty 3) 1 (fun _ => 0))] [0, 1, 2, 3] [4] := ⟨rfl, rfl, rfl, rfl, by decide⟩
  refine contc_I C hP hD hS ct_1 (runx_V (As := [.int b]) (rest := [.int 0, .ref ou]) C hP hD hS ct_1 (p_nearest l D ty h0 rd ho nw tr ts im g1 g2 g3 n0 n1 n2 n3 b hl9) kV_PinchedBillLaw_62 0 rfl rfl rfl rfl hl.1 rfl (nle rfl) d_L_nearest_4 ⟨by decide, by decide, by decide, by decide⟩) (fun E ce q9 H locs hpx hS hce hcv hcl => ?_) (fun r9 w9 H locs hw9 hP hD hS => ?_)
  · obtain ⟨rfl, hx9⟩ := hpx
    refine vx_catch (own := "PinchedBillLaw") (name := "java/lang/IllegalArgumentException") hown (tableOf []) ⟨0, 9, 12, 13⟩ (tableOf []) (hct.trans rfl) no_pass rfl (by decide) (hts _ k_656) (va_Nw.use rfl (hE.2.2.2.2.1 ("java/lang/IllegalArgumentException", "java/lang/IllegalArgumentException") (by decide +kernel))) hce hcv hcl ?_
    refine W.eq (g2 := F0 m 12 ls [.ref q9]) (by rfl) ?_
    have hP : va_P D vwCl [] H := fun k q h => by simp at h
    have hD : va_D A [] := hD.sub (ws' := []) [] (by decide) rfl
    have hgo9 := trivial
    refine lv_astore_n (lv' := [(3, .ref q9), (0, .ref h0), (1, .int b), (2, .ref ou)]) hx hb d_L_nearest_12 rfl hl (by decide) rfl (fun ls hl => ?_)
    refine lv_iconst (v := 1) hx hb d_L_nearest_13 (by decide) ?_
    exact vx_ret (ret_I (w := []) C hP hD hS [] rfl rfl (Or.inr (⟨hx9, rfl, rfl⟩)) (by decide) (by decide) d_L_nearest_14)
  · obtain ⟨hp9, rfl, rfl⟩ := hw9
    have hP : va_P D vwCl [(ou, eJ (ty 3) 1 (fun _ => 0))] H := hP
    have hD : va_D A [(ou, eJ (ty 3) 1 (fun _ => 0))] := hD
    refine lv_i2l (v := (b).toInt64) hx hb d_L_nearest_7 rfl ?_
    refine r_last (w := [(ou, eJ (ty 3) 1 (vp_updL (fun _ => 0) 0 (b).toInt64))]) C hP hD hS 0 rfl 0 rfl (by decide) (by decide) rfl d_L_nearest_8 (fun H locs hP hD hS => ?_)
    refine lv_goto (tgt := 15) hx hb d_L_nearest_9 (by decide) ?_
    refine lv_iconst (v := 0) hx hb d_L_nearest_15 (by decide) ?_
    exact vx_ret (ret_I (w := [(ou, eJ (ty 3) 1 (vp_updL (fun _ => 0) 0 (b).toInt64))]) C hP hD hS [0] rfl rfl (Or.inl ⟨hp9, rfl, rfl⟩) (by decide) (by decide) d_L_nearest_16)
set_option maxHeartbeats 4000000 in
set_option maxRecDepth 100000 in
theorem w_seats (l : Launch) (D : va_G) (ty : Nat → ClassId) (h0 : Nat) (rd : Nat) (ho : Nat) (nw : Nat) (tr : Nat) (ts : Nat) (im : Nat) (g1 : Nat) (g2 : Nat) (g3 : Nat) (n0 : Nat) (n1 : Nat) (n2 : Nat) (n3 : Nat) (b : Int32) (gq : Int32) (wh : Int32) (ou : Nat) (hl9 : l.stackTraces = false) : CW l D ty ⟨"PinchedBillLaw", "seats", "(LPinchedBill;III[J)I"⟩ method_19_code 6 (some .int) [(0, 12, 15, 13)] 8 187 18 22381 [.ref h0, .int b, .int gq, .int wh, .ref ou] [(h0, eO 8 [.ref rd, .ref ho, .ref nw, .ref tr, .ref ts, .ref im, .null]), (ho, eO 0 [.int 0, .int 1, .int 0, .int 0, .int 0, .int 0, .int 0, .int 0, .int 0, .int 0, .ref g1, .ref g2, .ref g3]), (nw, eO 5 [.ref n0, .int 0, .int 0, .ref n1, .ref n2, .ref n3]), (n0, eO 7 [.int 0, .int (-1)]), (ou, eJ (ty 3) 1 (fun _ => 0))] (QI D ty (fun (r : Int32) (w : va_W) => (((bB b = 1) ∧ (gq = (-1) ∨ bB gq = 1) ∧ (¬ wh < 0 ∧ ¬ 1 < wh)) ∧ 0 = r ∧ w = [(ou, eJ (ty 3) 1 (vp_updL (fun _ => 0) 0 ((sV b gq)).toInt64))]) ∨ ((¬ ((bB b = 1) ∧ (gq = (-1) ∨ bB gq = 1) ∧ (¬ wh < 0 ∧ ¬ 1 < wh))) ∧ 1 = r ∧ w = []))) := by
  refine CW_of (by decide) ?_
  intro p e s m below meth c A C hct hP hD hS
  obtain ⟨⟨hx, hb, hml, hown, hts⟩, hr, hlocks, hnm, hK, hE, hA, hZ⟩ := id C
  refine startW [.ref h0, .int b, .int gq, .int wh, .ref ou] 6 (nle rfl) (lv := [(0, .ref h0), (1, .int b), (2, .int gq), (3, .int wh), (4, .ref ou)]) rfl (fun ls hl => ?_)
  refine lv_aload hx hb d_L_seats_0 (lv_at hl 4 rfl) ?_
  refine lv_iconst (v := 0) hx hb d_L_seats_2 (by decide) ?_
  refine lv_aload_n hx hb d_L_seats_3 rfl (lv_at hl 0 rfl) ?_
  refine lv_iload_n hx hb d_L_seats_4 rfl (lv_at hl 1 rfl) ?_
  refine lv_iload_n hx hb d_L_seats_5 rfl (lv_at hl 2 rfl) ?_
  refine lv_iload_n hx hb d_L_seats_6 rfl (lv_at hl 3 rfl) ?_
  have ct_1 : Cut [(h0, eO 8 [.ref rd, .ref ho, .ref nw, .ref tr, .ref ts, .ref im, .null]), (ho, eO 0 [.int 0, .int 1, .int 0, .int 0, .int 0, .int 0, .int 0, .int 0, .int 0, .int 0, .ref g1, .ref g2, .ref g3]), (nw, eO 5 [.ref n0, .int 0, .int 0, .ref n1, .ref n2, .ref n3]), (n0, eO 7 [.int 0, .int (-1)]), (ou, eJ (ty 3) 1 (fun _ => 0))] [(h0, eO 8 [.ref rd, .ref ho, .ref nw, .ref tr, .ref ts, .ref im, .null]), (ho, eO 0 [.int 0, .int 1, .int 0, .int 0, .int 0, .int 0, .int 0, .int 0, .int 0, .int 0, .ref g1, .ref g2, .ref g3]), (nw, eO 5 [.ref n0, .int 0, .int 0, .ref n1, .ref n2, .ref n3]), (n0, eO 7 [.int 0, .int (-1)])] [(ou, eJ (ty 3) 1 (fun _ => 0))] [0, 1, 2, 3] [4] := ⟨rfl, rfl, rfl, rfl, by decide⟩
  refine contc_I C hP hD hS ct_1 (runx_V (As := [.int b, .int gq, .int wh]) (rest := [.int 0, .ref ou]) C hP hD hS ct_1 (p_seats l D ty h0 rd ho nw tr ts im g1 g2 g3 n0 n1 n2 n3 b gq wh hl9) kV_PinchedBillLaw_65 0 rfl rfl rfl rfl hl.1 rfl (nle rfl) d_L_seats_7 ⟨by decide, by decide, by decide, by decide⟩) (fun E ce q9 H locs hpx hS hce hcv hcl => ?_) (fun r9 w9 H locs hw9 hP hD hS => ?_)
  · obtain ⟨rfl, hx9⟩ := hpx
    refine vx_catch (own := "PinchedBillLaw") (name := "java/lang/IllegalArgumentException") hown (tableOf []) ⟨0, 12, 15, 13⟩ (tableOf []) (hct.trans rfl) no_pass rfl (by decide) (hts _ k_656) (va_Nw.use rfl (hE.2.2.2.2.1 ("java/lang/IllegalArgumentException", "java/lang/IllegalArgumentException") (by decide +kernel))) hce hcv hcl ?_
    refine W.eq (g2 := F0 m 15 ls [.ref q9]) (by rfl) ?_
    have hP : va_P D vwCl [] H := fun k q h => by simp at h
    have hD : va_D A [] := hD.sub (ws' := []) [] (by decide) rfl
    have hgo9 := trivial
    refine lv_astore (lv' := [(5, .ref q9), (0, .ref h0), (1, .int b), (2, .int gq), (3, .int wh), (4, .ref ou)]) hx hb d_L_seats_15 hl (by decide) rfl (fun ls hl => ?_)
    refine lv_iconst (v := 1) hx hb d_L_seats_17 (by decide) ?_
    exact vx_ret (ret_I (w := []) C hP hD hS [] rfl rfl (Or.inr (⟨hx9, rfl, rfl⟩)) (by decide) (by decide) d_L_seats_18)
  · obtain ⟨hp9, rfl, rfl⟩ := hw9
    have hP : va_P D vwCl [(ou, eJ (ty 3) 1 (fun _ => 0))] H := hP
    have hD : va_D A [(ou, eJ (ty 3) 1 (fun _ => 0))] := hD
    refine lv_i2l (v := ((sV b gq)).toInt64) hx hb d_L_seats_10 rfl ?_
    refine r_last (w := [(ou, eJ (ty 3) 1 (vp_updL (fun _ => 0) 0 ((sV b gq)).toInt64))]) C hP hD hS 0 rfl 0 rfl (by decide) (by decide) rfl d_L_seats_11 (fun H locs hP hD hS => ?_)
    refine lv_goto (tgt := 19) hx hb d_L_seats_12 (by decide) ?_
    refine lv_iconst (v := 0) hx hb d_L_seats_19 (by decide) ?_
    exact vx_ret (ret_I (w := [(ou, eJ (ty 3) 1 (vp_updL (fun _ => 0) 0 ((sV b gq)).toInt64))]) C hP hD hS [0] rfl rfl (Or.inl ⟨hp9, rfl, rfl⟩) (by decide) (by decide) d_L_seats_20)
set_option maxHeartbeats 4000000 in
set_option maxRecDepth 100000 in
theorem w_hire (l : Launch) (D : va_G) (ty : Nat → ClassId) (h0 : Nat) (rd : Nat) (ho : Nat) (nw : Nat) (tr : Nat) (ts : Nat) (im : Nat) (g1 : Nat) (g2 : Nat) (g3 : Nat) (n0 : Nat) (n1 : Nat) (n2 : Nat) (n3 : Nat) (b : Int32) (ou : Nat) (hl9 : l.stackTraces = false) : CW l D ty ⟨"PinchedBillLaw", "hire", "(LPinchedBill;I[J)I"⟩ method_20_code 4 (some .int) [(0, 9, 12, 13)] 8 161 16 22369 [.ref h0, .int b, .ref ou] [(h0, eO 8 [.ref rd, .ref ho, .ref nw, .ref tr, .ref ts, .ref im, .null]), (ho, eO 0 [.int 0, .int 1, .int 0, .int 0, .int 0, .int 0, .int 0, .int 0, .int 0, .int 0, .ref g1, .ref g2, .ref g3]), (nw, eO 5 [.ref n0, .int 0, .int 0, .ref n1, .ref n2, .ref n3]), (n0, eO 7 [.int 0, .int (-1)]), (ou, eJ (ty 3) 1 (fun _ => 0))] (QI D ty (fun (r : Int32) (w : va_W) => (((bB b = 1)) ∧ 0 = r ∧ w = [(ou, eJ (ty 3) 1 (vp_updL (fun _ => 0) 0 (-1)))]) ∨ ((¬ ((bB b = 1))) ∧ 1 = r ∧ w = []))) := by
  refine CW_of (by decide) ?_
  intro p e s m below meth c A C hct hP hD hS
  obtain ⟨⟨hx, hb, hml, hown, hts⟩, hr, hlocks, hnm, hK, hE, hA, hZ⟩ := id C
  refine startW [.ref h0, .int b, .ref ou] 4 (nle rfl) (lv := [(0, .ref h0), (1, .int b), (2, .ref ou)]) rfl (fun ls hl => ?_)
  refine lv_aload_n hx hb d_L_hire_0 rfl (lv_at hl 2 rfl) ?_
  refine lv_iconst (v := 0) hx hb d_L_hire_1 (by decide) ?_
  refine lv_aload_n hx hb d_L_hire_2 rfl (lv_at hl 0 rfl) ?_
  refine lv_iload_n hx hb d_L_hire_3 rfl (lv_at hl 1 rfl) ?_
  have ct_1 : Cut [(h0, eO 8 [.ref rd, .ref ho, .ref nw, .ref tr, .ref ts, .ref im, .null]), (ho, eO 0 [.int 0, .int 1, .int 0, .int 0, .int 0, .int 0, .int 0, .int 0, .int 0, .int 0, .ref g1, .ref g2, .ref g3]), (nw, eO 5 [.ref n0, .int 0, .int 0, .ref n1, .ref n2, .ref n3]), (n0, eO 7 [.int 0, .int (-1)]), (ou, eJ (ty 3) 1 (fun _ => 0))] [(h0, eO 8 [.ref rd, .ref ho, .ref nw, .ref tr, .ref ts, .ref im, .null]), (ho, eO 0 [.int 0, .int 1, .int 0, .int 0, .int 0, .int 0, .int 0, .int 0, .int 0, .int 0, .ref g1, .ref g2, .ref g3]), (nw, eO 5 [.ref n0, .int 0, .int 0, .ref n1, .ref n2, .ref n3]), (n0, eO 7 [.int 0, .int (-1)])] [(ou, eJ (ty 3) 1 (fun _ => 0))] [0, 1, 2, 3] [4] := ⟨rfl, rfl, rfl, rfl, by decide⟩
  refine contc_I C hP hD hS ct_1 (runx_V (As := [.int b]) (rest := [.int 0, .ref ou]) C hP hD hS ct_1 (p_hire l D ty h0 rd ho nw tr ts im g1 g2 g3 n0 n1 n2 n3 b hl9) kV_PinchedBillLaw_69 0 rfl rfl rfl rfl hl.1 rfl (nle rfl) d_L_hire_4 ⟨by decide, by decide, by decide, by decide⟩) (fun E ce q9 H locs hpx hS hce hcv hcl => ?_) (fun r9 w9 H locs hw9 hP hD hS => ?_)
  · obtain ⟨rfl, hx9⟩ := hpx
    refine vx_catch (own := "PinchedBillLaw") (name := "java/lang/IllegalArgumentException") hown (tableOf []) ⟨0, 9, 12, 13⟩ (tableOf []) (hct.trans rfl) no_pass rfl (by decide) (hts _ k_656) (va_Nw.use rfl (hE.2.2.2.2.1 ("java/lang/IllegalArgumentException", "java/lang/IllegalArgumentException") (by decide +kernel))) hce hcv hcl ?_
    refine W.eq (g2 := F0 m 12 ls [.ref q9]) (by rfl) ?_
    have hP : va_P D vwCl [] H := fun k q h => by simp at h
    have hD : va_D A [] := hD.sub (ws' := []) [] (by decide) rfl
    have hgo9 := trivial
    refine lv_astore_n (lv' := [(3, .ref q9), (0, .ref h0), (1, .int b), (2, .ref ou)]) hx hb d_L_hire_12 rfl hl (by decide) rfl (fun ls hl => ?_)
    refine lv_iconst (v := 1) hx hb d_L_hire_13 (by decide) ?_
    exact vx_ret (ret_I (w := []) C hP hD hS [] rfl rfl (Or.inr (⟨hx9, rfl, rfl⟩)) (by decide) (by decide) d_L_hire_14)
  · obtain ⟨hp9, rfl, rfl⟩ := hw9
    have hP : va_P D vwCl [(ou, eJ (ty 3) 1 (fun _ => 0))] H := hP
    have hD : va_D A [(ou, eJ (ty 3) 1 (fun _ => 0))] := hD
    refine lv_i2l (v := (-1)) hx hb d_L_hire_7 (by decide) ?_
    refine r_last (w := [(ou, eJ (ty 3) 1 (vp_updL (fun _ => 0) 0 (-1)))]) C hP hD hS 0 rfl 0 rfl (by decide) (by decide) rfl d_L_hire_8 (fun H locs hP hD hS => ?_)
    refine lv_goto (tgt := 15) hx hb d_L_hire_9 (by decide) ?_
    refine lv_iconst (v := 0) hx hb d_L_hire_15 (by decide) ?_
    exact vx_ret (ret_I (w := [(ou, eJ (ty 3) 1 (vp_updL (fun _ => 0) 0 (-1)))]) C hP hD hS [0] rfl rfl (Or.inl ⟨hp9, rfl, rfl⟩) (by decide) (by decide) d_L_hire_16)
set_option maxHeartbeats 4000000 in
set_option maxRecDepth 100000 in
theorem w_weighty (l : Launch) (D : va_G) (ty : Nat → ClassId) (h0 : Nat) (rd : Nat) (ho : Nat) (nw : Nat) (tr : Nat) (ts : Nat) (im : Nat) (g1 : Nat) (g2 : Nat) (g3 : Nat) (n0 : Nat) (n1 : Nat) (n2 : Nat) (n3 : Nat) (b : Int32) (ou : Nat) (hl9 : l.stackTraces = false) : CW l D ty ⟨"PinchedBillLaw", "weighty", "(LPinchedBill;I[J)I"⟩ method_21_code 4 (some .int) [(0, 9, 12, 13)] 8 163 16 22369 [.ref h0, .int b, .ref ou] [(h0, eO 8 [.ref rd, .ref ho, .ref nw, .ref tr, .ref ts, .ref im, .null]), (ho, eO 0 [.int 0, .int 1, .int 0, .int 0, .int 0, .int 0, .int 0, .int 0, .int 0, .int 0, .ref g1, .ref g2, .ref g3]), (nw, eO 5 [.ref n0, .int 0, .int 0, .ref n1, .ref n2, .ref n3]), (n0, eO 7 [.int 0, .int (-1)]), (ou, eJ (ty 3) 1 (fun _ => 0))] (QI D ty (fun (r : Int32) (w : va_W) => (((bB b = 1)) ∧ 0 = r ∧ w = [(ou, eJ (ty 3) 1 (vp_updL (fun _ => 0) 0 0))]) ∨ ((¬ ((bB b = 1))) ∧ 1 = r ∧ w = []))) := by
  refine CW_of (by decide) ?_
  intro p e s m below meth c A C hct hP hD hS
  obtain ⟨⟨hx, hb, hml, hown, hts⟩, hr, hlocks, hnm, hK, hE, hA, hZ⟩ := id C
  refine startW [.ref h0, .int b, .ref ou] 4 (nle rfl) (lv := [(0, .ref h0), (1, .int b), (2, .ref ou)]) rfl (fun ls hl => ?_)
  refine lv_aload_n hx hb d_L_weighty_0 rfl (lv_at hl 2 rfl) ?_
  refine lv_iconst (v := 0) hx hb d_L_weighty_1 (by decide) ?_
  refine lv_aload_n hx hb d_L_weighty_2 rfl (lv_at hl 0 rfl) ?_
  refine lv_iload_n hx hb d_L_weighty_3 rfl (lv_at hl 1 rfl) ?_
  have ct_1 : Cut [(h0, eO 8 [.ref rd, .ref ho, .ref nw, .ref tr, .ref ts, .ref im, .null]), (ho, eO 0 [.int 0, .int 1, .int 0, .int 0, .int 0, .int 0, .int 0, .int 0, .int 0, .int 0, .ref g1, .ref g2, .ref g3]), (nw, eO 5 [.ref n0, .int 0, .int 0, .ref n1, .ref n2, .ref n3]), (n0, eO 7 [.int 0, .int (-1)]), (ou, eJ (ty 3) 1 (fun _ => 0))] [(h0, eO 8 [.ref rd, .ref ho, .ref nw, .ref tr, .ref ts, .ref im, .null]), (ho, eO 0 [.int 0, .int 1, .int 0, .int 0, .int 0, .int 0, .int 0, .int 0, .int 0, .int 0, .ref g1, .ref g2, .ref g3]), (nw, eO 5 [.ref n0, .int 0, .int 0, .ref n1, .ref n2, .ref n3]), (n0, eO 7 [.int 0, .int (-1)])] [(ou, eJ (ty 3) 1 (fun _ => 0))] [0, 1, 2, 3] [4] := ⟨rfl, rfl, rfl, rfl, by decide⟩
  refine contc_I C hP hD hS ct_1 (runx_V (As := [.int b]) (rest := [.int 0, .ref ou]) C hP hD hS ct_1 (p_weighty l D ty h0 rd ho nw tr ts im g1 g2 g3 n0 n1 n2 n3 b hl9) kV_PinchedBillLaw_72 0 rfl rfl rfl rfl hl.1 rfl (nle rfl) d_L_weighty_4 ⟨by decide, by decide, by decide, by decide⟩) (fun E ce q9 H locs hpx hS hce hcv hcl => ?_) (fun r9 w9 H locs hw9 hP hD hS => ?_)
  · obtain ⟨rfl, hx9⟩ := hpx
    refine vx_catch (own := "PinchedBillLaw") (name := "java/lang/IllegalArgumentException") hown (tableOf []) ⟨0, 9, 12, 13⟩ (tableOf []) (hct.trans rfl) no_pass rfl (by decide) (hts _ k_656) (va_Nw.use rfl (hE.2.2.2.2.1 ("java/lang/IllegalArgumentException", "java/lang/IllegalArgumentException") (by decide +kernel))) hce hcv hcl ?_
    refine W.eq (g2 := F0 m 12 ls [.ref q9]) (by rfl) ?_
    have hP : va_P D vwCl [] H := fun k q h => by simp at h
    have hD : va_D A [] := hD.sub (ws' := []) [] (by decide) rfl
    have hgo9 := trivial
    refine lv_astore_n (lv' := [(3, .ref q9), (0, .ref h0), (1, .int b), (2, .ref ou)]) hx hb d_L_weighty_12 rfl hl (by decide) rfl (fun ls hl => ?_)
    refine lv_iconst (v := 1) hx hb d_L_weighty_13 (by decide) ?_
    exact vx_ret (ret_I (w := []) C hP hD hS [] rfl rfl (Or.inr (⟨hx9, rfl, rfl⟩)) (by decide) (by decide) d_L_weighty_14)
  · obtain ⟨hp9, rfl, rfl⟩ := hw9
    have hP : va_P D vwCl [(ou, eJ (ty 3) 1 (fun _ => 0))] H := hP
    have hD : va_D A [(ou, eJ (ty 3) 1 (fun _ => 0))] := hD
    refine lv_i2l (v := 0) hx hb d_L_weighty_7 (by decide) ?_
    refine r_last (w := [(ou, eJ (ty 3) 1 (vp_updL (fun _ => 0) 0 0))]) C hP hD hS 0 rfl 0 rfl (by decide) (by decide) rfl d_L_weighty_8 (fun H locs hP hD hS => ?_)
    refine lv_goto (tgt := 15) hx hb d_L_weighty_9 (by decide) ?_
    refine lv_iconst (v := 0) hx hb d_L_weighty_15 (by decide) ?_
    exact vx_ret (ret_I (w := [(ou, eJ (ty 3) 1 (vp_updL (fun _ => 0) 0 0))]) C hP hD hS [0] rfl rfl (Or.inl ⟨hp9, rfl, rfl⟩) (by decide) (by decide) d_L_weighty_16)
set_option maxHeartbeats 4000000 in
set_option maxRecDepth 100000 in
theorem w_share (l : Launch) (D : va_G) (ty : Nat → ClassId) (h0 : Nat) (rd : Nat) (ho : Nat) (nw : Nat) (tr : Nat) (ts : Nat) (im : Nat) (g1 : Nat) (g2 : Nat) (g3 : Nat) (b : Int32) (pn : Int32) (n : Int32) (ou : Nat) (hl9 : l.stackTraces = false) : CW l D ty ⟨"PinchedBillLaw", "share", "(LPinchedBill;III[J)I"⟩ method_22_code 6 (some .int) [(0, 12, 15, 19), (0, 12, 19, 13)] 8 127 1 6 [.ref h0, .int b, .int pn, .int n, .ref ou] [(h0, eO 8 [.ref rd, .ref ho, .ref nw, .ref tr, .ref ts, .ref im, .null]), (ho, eO 0 [.int 0, .int 1, .int 0, .int 0, .int 0, .int 0, .int 0, .int 0, .int 0, .int 0, .ref g1, .ref g2, .ref g3]), (ou, eJ (ty 3) 1 (fun _ => 0))] (QI D ty (fun (r : Int32) (w : va_W) => (1 = r ∧ w = []))) := by
  refine CW_of (by decide) ?_
  intro p e s m below meth c A C hct hP hD hS
  obtain ⟨⟨hx, hb, hml, hown, hts⟩, hr, hlocks, hnm, hK, hE, hA, hZ⟩ := id C
  refine startW [.ref h0, .int b, .int pn, .int n, .ref ou] 6 (nle rfl) (lv := [(0, .ref h0), (1, .int b), (2, .int pn), (3, .int n), (4, .ref ou)]) rfl (fun ls hl => ?_)
  refine lv_aload hx hb d_L_share_0 (lv_at hl 4 rfl) ?_
  refine lv_iconst (v := 0) hx hb d_L_share_2 (by decide) ?_
  refine lv_aload_n hx hb d_L_share_3 rfl (lv_at hl 0 rfl) ?_
  refine lv_iload_n hx hb d_L_share_4 rfl (lv_at hl 1 rfl) ?_
  refine lv_iload_n hx hb d_L_share_5 rfl (lv_at hl 2 rfl) ?_
  refine lv_iload_n hx hb d_L_share_6 rfl (lv_at hl 3 rfl) ?_
  have ct_1 : Cut [(h0, eO 8 [.ref rd, .ref ho, .ref nw, .ref tr, .ref ts, .ref im, .null]), (ho, eO 0 [.int 0, .int 1, .int 0, .int 0, .int 0, .int 0, .int 0, .int 0, .int 0, .int 0, .ref g1, .ref g2, .ref g3]), (ou, eJ (ty 3) 1 (fun _ => 0))] [(h0, eO 8 [.ref rd, .ref ho, .ref nw, .ref tr, .ref ts, .ref im, .null]), (ho, eO 0 [.int 0, .int 1, .int 0, .int 0, .int 0, .int 0, .int 0, .int 0, .int 0, .int 0, .ref g1, .ref g2, .ref g3])] [(ou, eJ (ty 3) 1 (fun _ => 0))] [0, 1] [2] := ⟨rfl, rfl, rfl, rfl, by decide⟩
  refine contc_N C hD hS ct_1 (runx_V (As := [.int b, .int pn, .int n]) (rest := [.int 0, .ref ou]) C hP hD hS ct_1 (p_share l D ty h0 rd ho nw tr ts im g1 g2 g3 b pn n hl9) kV_PinchedBillLaw_75 0 rfl rfl rfl rfl hl.1 rfl (nle rfl) d_L_share_7 ⟨by decide, by decide, by decide, by decide⟩) (fun E ce q9 H locs hpx hS hce hcv hcl => ?_)
  obtain rfl := hpx
  refine vx_catch (own := "PinchedBillLaw") (name := "java/util/NoSuchElementException") hown (tableOf []) ⟨0, 12, 15, 19⟩ (tableOf [(0, 12, 19, 13)]) (hct.trans rfl) no_pass rfl (by decide) (hts _ k_990) (va_Nw.use rfl (hE.2.2.2.2.1 ("java/util/NoSuchElementException", "java/util/NoSuchElementException") (by decide +kernel))) hce hcv hcl ?_
  refine W.eq (g2 := F0 m 15 ls [.ref q9]) (by rfl) ?_
  have hP : va_P D vwCl [] H := fun k q h => by simp at h
  have hD : va_D A [] := hD.sub (ws' := []) [] (by decide) rfl
  have hgo9 := trivial
  refine lv_astore (lv' := [(5, .ref q9), (0, .ref h0), (1, .int b), (2, .int pn), (3, .int n), (4, .ref ou)]) hx hb d_L_share_15 hl (by decide) rfl (fun ls hl => ?_)
  refine lv_iconst (v := 1) hx hb d_L_share_17 (by decide) ?_
  exact vx_ret (ret_I (w := []) C hP hD hS [] rfl rfl (⟨rfl, rfl⟩) (by decide) (by decide) d_L_share_18)
set_option maxHeartbeats 4000000 in
set_option maxRecDepth 100000 in
theorem w_sorest (l : Launch) (D : va_G) (ty : Nat → ClassId) (h0 : Nat) (rd : Nat) (ho : Nat) (nw : Nat) (tr : Nat) (ts : Nat) (im : Nat) (g1 : Nat) (g2 : Nat) (g3 : Nat) (n0 : Nat) (n1 : Nat) (n2 : Nat) (n3 : Nat) (b : Int32) (ou : Nat) (hl9 : l.stackTraces = false) : CW l D ty ⟨"PinchedBillLaw", "sorest", "(LPinchedBill;I[J)I"⟩ method_23_code 4 (some .int) [(0, 9, 12, 13)] 8 162 16 22369 [.ref h0, .int b, .ref ou] [(h0, eO 8 [.ref rd, .ref ho, .ref nw, .ref tr, .ref ts, .ref im, .null]), (ho, eO 0 [.int 0, .int 1, .int 0, .int 0, .int 0, .int 0, .int 0, .int 0, .int 0, .int 0, .ref g1, .ref g2, .ref g3]), (nw, eO 5 [.ref n0, .int 0, .int 0, .ref n1, .ref n2, .ref n3]), (n0, eO 7 [.int 0, .int (-1)]), (ou, eJ (ty 3) 1 (fun _ => 0))] (QI D ty (fun (r : Int32) (w : va_W) => (((bB b = 1)) ∧ 0 = r ∧ w = [(ou, eJ (ty 3) 1 (vp_updL (fun _ => 0) 0 (-1)))]) ∨ ((¬ ((bB b = 1))) ∧ 1 = r ∧ w = []))) := by
  refine CW_of (by decide) ?_
  intro p e s m below meth c A C hct hP hD hS
  obtain ⟨⟨hx, hb, hml, hown, hts⟩, hr, hlocks, hnm, hK, hE, hA, hZ⟩ := id C
  refine startW [.ref h0, .int b, .ref ou] 4 (nle rfl) (lv := [(0, .ref h0), (1, .int b), (2, .ref ou)]) rfl (fun ls hl => ?_)
  refine lv_aload_n hx hb d_L_sorest_0 rfl (lv_at hl 2 rfl) ?_
  refine lv_iconst (v := 0) hx hb d_L_sorest_1 (by decide) ?_
  refine lv_aload_n hx hb d_L_sorest_2 rfl (lv_at hl 0 rfl) ?_
  refine lv_iload_n hx hb d_L_sorest_3 rfl (lv_at hl 1 rfl) ?_
  have ct_1 : Cut [(h0, eO 8 [.ref rd, .ref ho, .ref nw, .ref tr, .ref ts, .ref im, .null]), (ho, eO 0 [.int 0, .int 1, .int 0, .int 0, .int 0, .int 0, .int 0, .int 0, .int 0, .int 0, .ref g1, .ref g2, .ref g3]), (nw, eO 5 [.ref n0, .int 0, .int 0, .ref n1, .ref n2, .ref n3]), (n0, eO 7 [.int 0, .int (-1)]), (ou, eJ (ty 3) 1 (fun _ => 0))] [(h0, eO 8 [.ref rd, .ref ho, .ref nw, .ref tr, .ref ts, .ref im, .null]), (ho, eO 0 [.int 0, .int 1, .int 0, .int 0, .int 0, .int 0, .int 0, .int 0, .int 0, .int 0, .ref g1, .ref g2, .ref g3]), (nw, eO 5 [.ref n0, .int 0, .int 0, .ref n1, .ref n2, .ref n3]), (n0, eO 7 [.int 0, .int (-1)])] [(ou, eJ (ty 3) 1 (fun _ => 0))] [0, 1, 2, 3] [4] := ⟨rfl, rfl, rfl, rfl, by decide⟩
  refine contc_I C hP hD hS ct_1 (runx_V (As := [.int b]) (rest := [.int 0, .ref ou]) C hP hD hS ct_1 (p_sorest l D ty h0 rd ho nw tr ts im g1 g2 g3 n0 n1 n2 n3 b hl9) kV_PinchedBillLaw_78 0 rfl rfl rfl rfl hl.1 rfl (nle rfl) d_L_sorest_4 ⟨by decide, by decide, by decide, by decide⟩) (fun E ce q9 H locs hpx hS hce hcv hcl => ?_) (fun r9 w9 H locs hw9 hP hD hS => ?_)
  · obtain ⟨rfl, hx9⟩ := hpx
    refine vx_catch (own := "PinchedBillLaw") (name := "java/lang/IllegalArgumentException") hown (tableOf []) ⟨0, 9, 12, 13⟩ (tableOf []) (hct.trans rfl) no_pass rfl (by decide) (hts _ k_656) (va_Nw.use rfl (hE.2.2.2.2.1 ("java/lang/IllegalArgumentException", "java/lang/IllegalArgumentException") (by decide +kernel))) hce hcv hcl ?_
    refine W.eq (g2 := F0 m 12 ls [.ref q9]) (by rfl) ?_
    have hP : va_P D vwCl [] H := fun k q h => by simp at h
    have hD : va_D A [] := hD.sub (ws' := []) [] (by decide) rfl
    have hgo9 := trivial
    refine lv_astore_n (lv' := [(3, .ref q9), (0, .ref h0), (1, .int b), (2, .ref ou)]) hx hb d_L_sorest_12 rfl hl (by decide) rfl (fun ls hl => ?_)
    refine lv_iconst (v := 1) hx hb d_L_sorest_13 (by decide) ?_
    exact vx_ret (ret_I (w := []) C hP hD hS [] rfl rfl (Or.inr (⟨hx9, rfl, rfl⟩)) (by decide) (by decide) d_L_sorest_14)
  · obtain ⟨hp9, rfl, rfl⟩ := hw9
    have hP : va_P D vwCl [(ou, eJ (ty 3) 1 (fun _ => 0))] H := hP
    have hD : va_D A [(ou, eJ (ty 3) 1 (fun _ => 0))] := hD
    refine lv_i2l (v := (-1)) hx hb d_L_sorest_7 (by decide) ?_
    refine r_last (w := [(ou, eJ (ty 3) 1 (vp_updL (fun _ => 0) 0 (-1)))]) C hP hD hS 0 rfl 0 rfl (by decide) (by decide) rfl d_L_sorest_8 (fun H locs hP hD hS => ?_)
    refine lv_goto (tgt := 15) hx hb d_L_sorest_9 (by decide) ?_
    refine lv_iconst (v := 0) hx hb d_L_sorest_15 (by decide) ?_
    exact vx_ret (ret_I (w := [(ou, eJ (ty 3) 1 (vp_updL (fun _ => 0) 0 (-1)))]) C hP hD hS [0] rfl rfl (Or.inl ⟨hp9, rfl, rfl⟩) (by decide) (by decide) d_L_sorest_16)
set_option maxHeartbeats 4000000 in
set_option maxRecDepth 100000 in
theorem w_before (l : Launch) (D : va_G) (ty : Nat → ClassId) (h0 : Nat) (rd : Nat) (ho : Nat) (nw : Nat) (tr : Nat) (ts : Nat) (im : Nat) (g1 : Nat) (g2 : Nat) (g3 : Nat) (n0 : Nat) (n1 : Nat) (n2 : Nat) (n3 : Nat) (b : Int32) (n : Int32) (ou : Nat) (hl9 : l.stackTraces = false) : CW l D ty ⟨"PinchedBillLaw", "before", "(LPinchedBill;II[J)I"⟩ method_24_code 5 (some .int) [(0, 10, 13, 13)] 8 184 17 22375 [.ref h0, .int b, .int n, .ref ou] [(h0, eO 8 [.ref rd, .ref ho, .ref nw, .ref tr, .ref ts, .ref im, .null]), (ho, eO 0 [.int 0, .int 1, .int 0, .int 0, .int 0, .int 0, .int 0, .int 0, .int 0, .int 0, .ref g1, .ref g2, .ref g3]), (nw, eO 5 [.ref n0, .int 0, .int 0, .ref n1, .ref n2, .ref n3]), (n0, eO 7 [.int 0, .int (-1)]), (ou, eJ (ty 3) 1 (fun _ => 0))] (QI D ty (fun (r : Int32) (w : va_W) => (((bB b = 1) ∧ (¬ n < 0 ∧ ¬ 99 < n)) ∧ 0 = r ∧ w = [(ou, eJ (ty 3) 1 (vp_updL (fun _ => 0) 0 1))]) ∨ ((¬ ((bB b = 1) ∧ (¬ n < 0 ∧ ¬ 99 < n))) ∧ 1 = r ∧ w = []))) := by
  refine CW_of (by decide) ?_
  intro p e s m below meth c A C hct hP hD hS
  obtain ⟨⟨hx, hb, hml, hown, hts⟩, hr, hlocks, hnm, hK, hE, hA, hZ⟩ := id C
  refine startW [.ref h0, .int b, .int n, .ref ou] 5 (nle rfl) (lv := [(0, .ref h0), (1, .int b), (2, .int n), (3, .ref ou)]) rfl (fun ls hl => ?_)
  refine lv_aload_n hx hb d_L_before_0 rfl (lv_at hl 3 rfl) ?_
  refine lv_iconst (v := 0) hx hb d_L_before_1 (by decide) ?_
  refine lv_aload_n hx hb d_L_before_2 rfl (lv_at hl 0 rfl) ?_
  refine lv_iload_n hx hb d_L_before_3 rfl (lv_at hl 1 rfl) ?_
  refine lv_iload_n hx hb d_L_before_4 rfl (lv_at hl 2 rfl) ?_
  have ct_1 : Cut [(h0, eO 8 [.ref rd, .ref ho, .ref nw, .ref tr, .ref ts, .ref im, .null]), (ho, eO 0 [.int 0, .int 1, .int 0, .int 0, .int 0, .int 0, .int 0, .int 0, .int 0, .int 0, .ref g1, .ref g2, .ref g3]), (nw, eO 5 [.ref n0, .int 0, .int 0, .ref n1, .ref n2, .ref n3]), (n0, eO 7 [.int 0, .int (-1)]), (ou, eJ (ty 3) 1 (fun _ => 0))] [(h0, eO 8 [.ref rd, .ref ho, .ref nw, .ref tr, .ref ts, .ref im, .null]), (ho, eO 0 [.int 0, .int 1, .int 0, .int 0, .int 0, .int 0, .int 0, .int 0, .int 0, .int 0, .ref g1, .ref g2, .ref g3]), (nw, eO 5 [.ref n0, .int 0, .int 0, .ref n1, .ref n2, .ref n3]), (n0, eO 7 [.int 0, .int (-1)])] [(ou, eJ (ty 3) 1 (fun _ => 0))] [0, 1, 2, 3] [4] := ⟨rfl, rfl, rfl, rfl, by decide⟩
  refine contc_I C hP hD hS ct_1 (runx_V (As := [.int b, .int n]) (rest := [.int 0, .ref ou]) C hP hD hS ct_1 (p_before l D ty h0 rd ho nw tr ts im g1 g2 g3 n0 n1 n2 n3 b n hl9) kV_PinchedBillLaw_81 0 rfl rfl rfl rfl hl.1 rfl (nle rfl) d_L_before_5 ⟨by decide, by decide, by decide, by decide⟩) (fun E ce q9 H locs hpx hS hce hcv hcl => ?_) (fun r9 w9 H locs hw9 hP hD hS => ?_)
  · obtain ⟨rfl, hx9⟩ := hpx
    refine vx_catch (own := "PinchedBillLaw") (name := "java/lang/IllegalArgumentException") hown (tableOf []) ⟨0, 10, 13, 13⟩ (tableOf []) (hct.trans rfl) no_pass rfl (by decide) (hts _ k_656) (va_Nw.use rfl (hE.2.2.2.2.1 ("java/lang/IllegalArgumentException", "java/lang/IllegalArgumentException") (by decide +kernel))) hce hcv hcl ?_
    refine W.eq (g2 := F0 m 13 ls [.ref q9]) (by rfl) ?_
    have hP : va_P D vwCl [] H := fun k q h => by simp at h
    have hD : va_D A [] := hD.sub (ws' := []) [] (by decide) rfl
    have hgo9 := trivial
    refine lv_astore (lv' := [(4, .ref q9), (0, .ref h0), (1, .int b), (2, .int n), (3, .ref ou)]) hx hb d_L_before_13 hl (by decide) rfl (fun ls hl => ?_)
    refine lv_iconst (v := 1) hx hb d_L_before_15 (by decide) ?_
    exact vx_ret (ret_I (w := []) C hP hD hS [] rfl rfl (Or.inr (⟨hx9, rfl, rfl⟩)) (by decide) (by decide) d_L_before_16)
  · obtain ⟨hp9, rfl, rfl⟩ := hw9
    have hP : va_P D vwCl [(ou, eJ (ty 3) 1 (fun _ => 0))] H := hP
    have hD : va_D A [(ou, eJ (ty 3) 1 (fun _ => 0))] := hD
    refine lv_i2l (v := 1) hx hb d_L_before_8 (by decide) ?_
    refine r_last (w := [(ou, eJ (ty 3) 1 (vp_updL (fun _ => 0) 0 1))]) C hP hD hS 0 rfl 0 rfl (by decide) (by decide) rfl d_L_before_9 (fun H locs hP hD hS => ?_)
    refine lv_goto (tgt := 17) hx hb d_L_before_10 (by decide) ?_
    refine lv_iconst (v := 0) hx hb d_L_before_17 (by decide) ?_
    exact vx_ret (ret_I (w := [(ou, eJ (ty 3) 1 (vp_updL (fun _ => 0) 0 1))]) C hP hD hS [0] rfl rfl (Or.inl ⟨hp9, rfl, rfl⟩) (by decide) (by decide) d_L_before_18)
set_option maxHeartbeats 4000000 in
set_option maxRecDepth 100000 in
theorem w_beforeAt (l : Launch) (D : va_G) (ty : Nat → ClassId) (h0 : Nat) (rd : Nat) (ho : Nat) (nw : Nat) (tr : Nat) (ts : Nat) (im : Nat) (g1 : Nat) (g2 : Nat) (g3 : Nat) (n0 : Nat) (n1 : Nat) (n2 : Nat) (n3 : Nat) (b : Int32) (n : Int32) (kk : Int32) (ou : Nat) (hl9 : l.stackTraces = false) : CW l D ty ⟨"PinchedBillLaw", "beforeAt", "(LPinchedBill;III[J)I"⟩ method_25_code 6 (some .int) [(0, 12, 15, 13)] 8 186 18 22381 [.ref h0, .int b, .int n, .int kk, .ref ou] [(h0, eO 8 [.ref rd, .ref ho, .ref nw, .ref tr, .ref ts, .ref im, .null]), (ho, eO 0 [.int 0, .int 1, .int 0, .int 0, .int 0, .int 0, .int 0, .int 0, .int 0, .int 0, .ref g1, .ref g2, .ref g3]), (nw, eO 5 [.ref n0, .int 0, .int 0, .ref n1, .ref n2, .ref n3]), (n0, eO 7 [.int 0, .int (-1)]), (ou, eJ (ty 3) 1 (fun _ => 0))] (QI D ty (fun (r : Int32) (w : va_W) => (((bB b = 1) ∧ (¬ n < 0 ∧ ¬ 99 < n) ∧ (¬ kk < 0)) ∧ 0 = r ∧ w = [(ou, eJ (ty 3) 1 (vp_updL (fun _ => 0) 0 ((if kk = 0 then b else (-1))).toInt64))]) ∨ ((¬ ((bB b = 1) ∧ (¬ n < 0 ∧ ¬ 99 < n) ∧ (¬ kk < 0))) ∧ 1 = r ∧ w = []))) := by
  refine CW_of (by decide) ?_
  intro p e s m below meth c A C hct hP hD hS
  obtain ⟨⟨hx, hb, hml, hown, hts⟩, hr, hlocks, hnm, hK, hE, hA, hZ⟩ := id C
  refine startW [.ref h0, .int b, .int n, .int kk, .ref ou] 6 (nle rfl) (lv := [(0, .ref h0), (1, .int b), (2, .int n), (3, .int kk), (4, .ref ou)]) rfl (fun ls hl => ?_)
  refine lv_aload hx hb d_L_beforeAt_0 (lv_at hl 4 rfl) ?_
  refine lv_iconst (v := 0) hx hb d_L_beforeAt_2 (by decide) ?_
  refine lv_aload_n hx hb d_L_beforeAt_3 rfl (lv_at hl 0 rfl) ?_
  refine lv_iload_n hx hb d_L_beforeAt_4 rfl (lv_at hl 1 rfl) ?_
  refine lv_iload_n hx hb d_L_beforeAt_5 rfl (lv_at hl 2 rfl) ?_
  refine lv_iload_n hx hb d_L_beforeAt_6 rfl (lv_at hl 3 rfl) ?_
  have ct_1 : Cut [(h0, eO 8 [.ref rd, .ref ho, .ref nw, .ref tr, .ref ts, .ref im, .null]), (ho, eO 0 [.int 0, .int 1, .int 0, .int 0, .int 0, .int 0, .int 0, .int 0, .int 0, .int 0, .ref g1, .ref g2, .ref g3]), (nw, eO 5 [.ref n0, .int 0, .int 0, .ref n1, .ref n2, .ref n3]), (n0, eO 7 [.int 0, .int (-1)]), (ou, eJ (ty 3) 1 (fun _ => 0))] [(h0, eO 8 [.ref rd, .ref ho, .ref nw, .ref tr, .ref ts, .ref im, .null]), (ho, eO 0 [.int 0, .int 1, .int 0, .int 0, .int 0, .int 0, .int 0, .int 0, .int 0, .int 0, .ref g1, .ref g2, .ref g3]), (nw, eO 5 [.ref n0, .int 0, .int 0, .ref n1, .ref n2, .ref n3]), (n0, eO 7 [.int 0, .int (-1)])] [(ou, eJ (ty 3) 1 (fun _ => 0))] [0, 1, 2, 3] [4] := ⟨rfl, rfl, rfl, rfl, by decide⟩
  refine contc_I C hP hD hS ct_1 (runx_V (As := [.int b, .int n, .int kk]) (rest := [.int 0, .ref ou]) C hP hD hS ct_1 (p_beforeAt l D ty h0 rd ho nw tr ts im g1 g2 g3 n0 n1 n2 n3 b n kk hl9) kV_PinchedBillLaw_84 0 rfl rfl rfl rfl hl.1 rfl (nle rfl) d_L_beforeAt_7 ⟨by decide, by decide, by decide, by decide⟩) (fun E ce q9 H locs hpx hS hce hcv hcl => ?_) (fun r9 w9 H locs hw9 hP hD hS => ?_)
  · obtain ⟨rfl, hx9⟩ := hpx
    refine vx_catch (own := "PinchedBillLaw") (name := "java/lang/IllegalArgumentException") hown (tableOf []) ⟨0, 12, 15, 13⟩ (tableOf []) (hct.trans rfl) no_pass rfl (by decide) (hts _ k_656) (va_Nw.use rfl (hE.2.2.2.2.1 ("java/lang/IllegalArgumentException", "java/lang/IllegalArgumentException") (by decide +kernel))) hce hcv hcl ?_
    refine W.eq (g2 := F0 m 15 ls [.ref q9]) (by rfl) ?_
    have hP : va_P D vwCl [] H := fun k q h => by simp at h
    have hD : va_D A [] := hD.sub (ws' := []) [] (by decide) rfl
    have hgo9 := trivial
    refine lv_astore (lv' := [(5, .ref q9), (0, .ref h0), (1, .int b), (2, .int n), (3, .int kk), (4, .ref ou)]) hx hb d_L_beforeAt_15 hl (by decide) rfl (fun ls hl => ?_)
    refine lv_iconst (v := 1) hx hb d_L_beforeAt_17 (by decide) ?_
    exact vx_ret (ret_I (w := []) C hP hD hS [] rfl rfl (Or.inr (⟨hx9, rfl, rfl⟩)) (by decide) (by decide) d_L_beforeAt_18)
  · obtain ⟨hp9, rfl, rfl⟩ := hw9
    have hP : va_P D vwCl [(ou, eJ (ty 3) 1 (fun _ => 0))] H := hP
    have hD : va_D A [(ou, eJ (ty 3) 1 (fun _ => 0))] := hD
    refine lv_i2l (v := ((if kk = 0 then b else (-1))).toInt64) hx hb d_L_beforeAt_10 rfl ?_
    refine r_last (w := [(ou, eJ (ty 3) 1 (vp_updL (fun _ => 0) 0 ((if kk = 0 then b else (-1))).toInt64))]) C hP hD hS 0 rfl 0 rfl (by decide) (by decide) rfl d_L_beforeAt_11 (fun H locs hP hD hS => ?_)
    refine lv_goto (tgt := 19) hx hb d_L_beforeAt_12 (by decide) ?_
    refine lv_iconst (v := 0) hx hb d_L_beforeAt_19 (by decide) ?_
    exact vx_ret (ret_I (w := [(ou, eJ (ty 3) 1 (vp_updL (fun _ => 0) 0 ((if kk = 0 then b else (-1))).toInt64))]) C hP hD hS [0] rfl rfl (Or.inl ⟨hp9, rfl, rfl⟩) (by decide) (by decide) d_L_beforeAt_20)
set_option maxHeartbeats 4000000 in
set_option maxRecDepth 100000 in
theorem w_seen (l : Launch) (D : va_G) (ty : Nat → ClassId) (h0 : Nat) (rd : Nat) (ho : Nat) (nw : Nat) (tr : Nat) (ts : Nat) (im : Nat) (g1 : Nat) (g2 : Nat) (g3 : Nat) (t : Int32) (ou : Nat) (hl9 : l.stackTraces = false) : CW l D ty ⟨"PinchedBillLaw", "seen", "(LPinchedBill;I[J)I"⟩ method_26_code 4 (some .int) [(0, 9, 12, 19), (0, 9, 15, 36), (0, 9, 18, 13)] 10 170 17 22375 [.ref h0, .int t, .ref ou] [(h0, eO 8 [.ref rd, .ref ho, .ref nw, .ref tr, .ref ts, .ref im, .null]), (ho, eO 0 [.int 0, .int 1, .int 0, .int 0, .int 0, .int 0, .int 0, .int 0, .int 0, .int 0, .ref g1, .ref g2, .ref g3]), (ts, eQ (ty 4) 4 (fun _ => none)), (ou, eJ (ty 3) 1 (fun _ => 0))] (QI D ty (fun (r : Int32) (w : va_W) => ((¬ (¬ t < 0 ∧ t < 4)) ∧ 1 = r ∧ w = []) ∨ ((¬ t < 0 ∧ t < 4) ∧ 2 = r ∧ w = []))) := by
  refine CW_of (by decide) ?_
  intro p e s m below meth c A C hct hP hD hS
  obtain ⟨⟨hx, hb, hml, hown, hts⟩, hr, hlocks, hnm, hK, hE, hA, hZ⟩ := id C
  refine startW [.ref h0, .int t, .ref ou] 4 (nle rfl) (lv := [(0, .ref h0), (1, .int t), (2, .ref ou)]) rfl (fun ls hl => ?_)
  refine lv_aload_n hx hb d_L_seen_0 rfl (lv_at hl 2 rfl) ?_
  refine lv_iconst (v := 0) hx hb d_L_seen_1 (by decide) ?_
  refine lv_aload_n hx hb d_L_seen_2 rfl (lv_at hl 0 rfl) ?_
  refine lv_iload_n hx hb d_L_seen_3 rfl (lv_at hl 1 rfl) ?_
  have ct_1 : Cut [(h0, eO 8 [.ref rd, .ref ho, .ref nw, .ref tr, .ref ts, .ref im, .null]), (ho, eO 0 [.int 0, .int 1, .int 0, .int 0, .int 0, .int 0, .int 0, .int 0, .int 0, .int 0, .ref g1, .ref g2, .ref g3]), (ts, eQ (ty 4) 4 (fun _ => none)), (ou, eJ (ty 3) 1 (fun _ => 0))] [(h0, eO 8 [.ref rd, .ref ho, .ref nw, .ref tr, .ref ts, .ref im, .null]), (ho, eO 0 [.int 0, .int 1, .int 0, .int 0, .int 0, .int 0, .int 0, .int 0, .int 0, .int 0, .ref g1, .ref g2, .ref g3]), (ts, eQ (ty 4) 4 (fun _ => none))] [(ou, eJ (ty 3) 1 (fun _ => 0))] [0, 1, 2] [3] := ⟨rfl, rfl, rfl, rfl, by decide⟩
  refine contc_N C hD hS ct_1 (runx_V (As := [.int t]) (rest := [.int 0, .ref ou]) C hP hD hS ct_1 (p_seen l D ty h0 rd ho nw tr ts im g1 g2 g3 t hl9) kV_PinchedBillLaw_87 0 rfl rfl rfl rfl hl.1 rfl (nle rfl) d_L_seen_4 ⟨by decide, by decide, by decide, by decide⟩) (fun E ce q9 H locs hpx hS hce hcv hcl => ?_)
  rcases hpx with ⟨rfl, hx9⟩ | ⟨rfl, hx9⟩
  · refine vx_catch (own := "PinchedBillLaw") (name := "java/util/NoSuchElementException") hown (tableOf []) ⟨0, 9, 12, 19⟩ (tableOf [(0, 9, 15, 36), (0, 9, 18, 13)]) (hct.trans rfl) no_pass rfl (by decide) (hts _ k_990) (va_Nw.use rfl (hE.2.2.2.2.1 ("java/util/NoSuchElementException", "java/util/NoSuchElementException") (by decide +kernel))) hce hcv hcl ?_
    refine W.eq (g2 := F0 m 12 ls [.ref q9]) (by rfl) ?_
    have hP : va_P D vwCl [] H := fun k q h => by simp at h
    have hD : va_D A [] := hD.sub (ws' := []) [] (by decide) rfl
    have hgo9 := trivial
    refine lv_astore_n (lv' := [(3, .ref q9), (0, .ref h0), (1, .int t), (2, .ref ou)]) hx hb d_L_seen_12 rfl hl (by decide) rfl (fun ls hl => ?_)
    refine lv_iconst (v := 1) hx hb d_L_seen_13 (by decide) ?_
    exact vx_ret (ret_I (w := []) C hP hD hS [] rfl rfl (Or.inl ⟨hx9, rfl, rfl⟩) (by decide) (by decide) d_L_seen_14)
  · refine vx_catch (own := "PinchedBillLaw") (name := "java/lang/IllegalStateException") hown (tableOf [(0, 9, 12, 19)]) ⟨0, 9, 15, 36⟩ (tableOf [(0, 9, 18, 13)]) (hct.trans rfl) (one_pass (by decide) (hts _ k_990) (hE.2.2.2.2.2.1 ("java/lang/IllegalStateException", "java/util/NoSuchElementException") (by decide +kernel))) rfl (by decide) (hts _ k_1066) (va_Nw.use rfl (hE.2.2.2.2.1 ("java/lang/IllegalStateException", "java/lang/IllegalStateException") (by decide +kernel))) hce hcv hcl ?_
    refine W.eq (g2 := F0 m 15 ls [.ref q9]) (by rfl) ?_
    have hP : va_P D vwCl [] H := fun k q h => by simp at h
    have hD : va_D A [] := hD.sub (ws' := []) [] (by decide) rfl
    have hgo9 := trivial
    refine lv_astore_n (lv' := [(3, .ref q9), (0, .ref h0), (1, .int t), (2, .ref ou)]) hx hb d_L_seen_15 rfl hl (by decide) rfl (fun ls hl => ?_)
    refine lv_iconst (v := 2) hx hb d_L_seen_16 (by decide) ?_
    exact vx_ret (ret_I (w := []) C hP hD hS [] rfl rfl (Or.inr (⟨hx9, rfl, rfl⟩)) (by decide) (by decide) d_L_seen_17)
set_option maxHeartbeats 4000000 in
set_option maxRecDepth 100000 in
theorem w_seenAt (l : Launch) (D : va_G) (ty : Nat → ClassId) (h0 : Nat) (rd : Nat) (ho : Nat) (nw : Nat) (tr : Nat) (ts : Nat) (im : Nat) (t : Int32) (kk : Int32) (ou : Nat) (hl9 : l.stackTraces = false) : CW l D ty ⟨"PinchedBillLaw", "seenAt", "(LPinchedBill;II[J)I"⟩ method_27_code 5 (some .int) [(0, 10, 13, 19), (0, 10, 17, 36), (0, 10, 21, 13)] 10 173 2 12 [.ref h0, .int t, .int kk, .ref ou] [(h0, eO 8 [.ref rd, .ref ho, .ref nw, .ref tr, .ref ts, .ref im, .null]), (ts, eQ (ty 4) 4 (fun _ => none)), (ou, eJ (ty 3) 1 (fun _ => 0))] (QI D ty (fun (r : Int32) (w : va_W) => ((¬ (¬ t < 0 ∧ t < 4)) ∧ 1 = r ∧ w = []) ∨ ((¬ t < 0 ∧ t < 4) ∧ 2 = r ∧ w = []))) := by
  refine CW_of (by decide) ?_
  intro p e s m below meth c A C hct hP hD hS
  obtain ⟨⟨hx, hb, hml, hown, hts⟩, hr, hlocks, hnm, hK, hE, hA, hZ⟩ := id C
  refine startW [.ref h0, .int t, .int kk, .ref ou] 5 (nle rfl) (lv := [(0, .ref h0), (1, .int t), (2, .int kk), (3, .ref ou)]) rfl (fun ls hl => ?_)
  refine lv_aload_n hx hb d_L_seenAt_0 rfl (lv_at hl 3 rfl) ?_
  refine lv_iconst (v := 0) hx hb d_L_seenAt_1 (by decide) ?_
  refine lv_aload_n hx hb d_L_seenAt_2 rfl (lv_at hl 0 rfl) ?_
  refine lv_iload_n hx hb d_L_seenAt_3 rfl (lv_at hl 1 rfl) ?_
  refine lv_iload_n hx hb d_L_seenAt_4 rfl (lv_at hl 2 rfl) ?_
  have ct_1 : Cut [(h0, eO 8 [.ref rd, .ref ho, .ref nw, .ref tr, .ref ts, .ref im, .null]), (ts, eQ (ty 4) 4 (fun _ => none)), (ou, eJ (ty 3) 1 (fun _ => 0))] [(h0, eO 8 [.ref rd, .ref ho, .ref nw, .ref tr, .ref ts, .ref im, .null]), (ts, eQ (ty 4) 4 (fun _ => none))] [(ou, eJ (ty 3) 1 (fun _ => 0))] [0, 1] [2] := ⟨rfl, rfl, rfl, rfl, by decide⟩
  refine contc_N C hD hS ct_1 (runx_V (As := [.int t, .int kk]) (rest := [.int 0, .ref ou]) C hP hD hS ct_1 (p_seenAt l D ty h0 rd ho nw tr ts im t kk hl9) kV_PinchedBillLaw_90 0 rfl rfl rfl rfl hl.1 rfl (nle rfl) d_L_seenAt_5 ⟨by decide, by decide, by decide, by decide⟩) (fun E ce q9 H locs hpx hS hce hcv hcl => ?_)
  rcases hpx with ⟨rfl, hx9⟩ | ⟨rfl, hx9⟩
  · refine vx_catch (own := "PinchedBillLaw") (name := "java/util/NoSuchElementException") hown (tableOf []) ⟨0, 10, 13, 19⟩ (tableOf [(0, 10, 17, 36), (0, 10, 21, 13)]) (hct.trans rfl) no_pass rfl (by decide) (hts _ k_990) (va_Nw.use rfl (hE.2.2.2.2.1 ("java/util/NoSuchElementException", "java/util/NoSuchElementException") (by decide +kernel))) hce hcv hcl ?_
    refine W.eq (g2 := F0 m 13 ls [.ref q9]) (by rfl) ?_
    have hP : va_P D vwCl [] H := fun k q h => by simp at h
    have hD : va_D A [] := hD.sub (ws' := []) [] (by decide) rfl
    have hgo9 := trivial
    refine lv_astore (lv' := [(4, .ref q9), (0, .ref h0), (1, .int t), (2, .int kk), (3, .ref ou)]) hx hb d_L_seenAt_13 hl (by decide) rfl (fun ls hl => ?_)
    refine lv_iconst (v := 1) hx hb d_L_seenAt_15 (by decide) ?_
    exact vx_ret (ret_I (w := []) C hP hD hS [] rfl rfl (Or.inl ⟨hx9, rfl, rfl⟩) (by decide) (by decide) d_L_seenAt_16)
  · refine vx_catch (own := "PinchedBillLaw") (name := "java/lang/IllegalStateException") hown (tableOf [(0, 10, 13, 19)]) ⟨0, 10, 17, 36⟩ (tableOf [(0, 10, 21, 13)]) (hct.trans rfl) (one_pass (by decide) (hts _ k_990) (hE.2.2.2.2.2.1 ("java/lang/IllegalStateException", "java/util/NoSuchElementException") (by decide +kernel))) rfl (by decide) (hts _ k_1066) (va_Nw.use rfl (hE.2.2.2.2.1 ("java/lang/IllegalStateException", "java/lang/IllegalStateException") (by decide +kernel))) hce hcv hcl ?_
    refine W.eq (g2 := F0 m 17 ls [.ref q9]) (by rfl) ?_
    have hP : va_P D vwCl [] H := fun k q h => by simp at h
    have hD : va_D A [] := hD.sub (ws' := []) [] (by decide) rfl
    have hgo9 := trivial
    refine lv_astore (lv' := [(4, .ref q9), (0, .ref h0), (1, .int t), (2, .int kk), (3, .ref ou)]) hx hb d_L_seenAt_17 hl (by decide) rfl (fun ls hl => ?_)
    refine lv_iconst (v := 2) hx hb d_L_seenAt_19 (by decide) ?_
    exact vx_ret (ret_I (w := []) C hP hD hS [] rfl rfl (Or.inr (⟨hx9, rfl, rfl⟩)) (by decide) (by decide) d_L_seenAt_20)
set_option maxHeartbeats 4000000 in
set_option maxRecDepth 100000 in
theorem w_ask (l : Launch) (D : va_G) (ty : Nat → ClassId) (h0 : Nat) (rd : Nat) (ho : Nat) (nw : Nat) (tr : Nat) (ts : Nat) (im : Nat) (t : Int32) (ou : Nat) (hl9 : l.stackTraces = false) : CW l D ty ⟨"PinchedBillLaw", "ask", "(LPinchedBill;I[J)I"⟩ method_28_code 4 (some .int) [(0, 9, 12, 19), (0, 9, 15, 36), (0, 9, 18, 13)] 10 176 2 12 [.ref h0, .int t, .ref ou] [(h0, eO 8 [.ref rd, .ref ho, .ref nw, .ref tr, .ref ts, .ref im, .null]), (ts, eQ (ty 4) 4 (fun _ => none)), (ou, eJ (ty 3) 1 (fun _ => 0))] (QI D ty (fun (r : Int32) (w : va_W) => ((¬ (¬ t < 0 ∧ t < 4)) ∧ 1 = r ∧ w = []) ∨ ((¬ t < 0 ∧ t < 4) ∧ 2 = r ∧ w = []))) := by
  refine CW_of (by decide) ?_
  intro p e s m below meth c A C hct hP hD hS
  obtain ⟨⟨hx, hb, hml, hown, hts⟩, hr, hlocks, hnm, hK, hE, hA, hZ⟩ := id C
  refine startW [.ref h0, .int t, .ref ou] 4 (nle rfl) (lv := [(0, .ref h0), (1, .int t), (2, .ref ou)]) rfl (fun ls hl => ?_)
  refine lv_aload_n hx hb d_L_ask_0 rfl (lv_at hl 2 rfl) ?_
  refine lv_iconst (v := 0) hx hb d_L_ask_1 (by decide) ?_
  refine lv_aload_n hx hb d_L_ask_2 rfl (lv_at hl 0 rfl) ?_
  refine lv_iload_n hx hb d_L_ask_3 rfl (lv_at hl 1 rfl) ?_
  have ct_1 : Cut [(h0, eO 8 [.ref rd, .ref ho, .ref nw, .ref tr, .ref ts, .ref im, .null]), (ts, eQ (ty 4) 4 (fun _ => none)), (ou, eJ (ty 3) 1 (fun _ => 0))] [(h0, eO 8 [.ref rd, .ref ho, .ref nw, .ref tr, .ref ts, .ref im, .null]), (ts, eQ (ty 4) 4 (fun _ => none))] [(ou, eJ (ty 3) 1 (fun _ => 0))] [0, 1] [2] := ⟨rfl, rfl, rfl, rfl, by decide⟩
  refine contc_N C hD hS ct_1 (runx_V (As := [.int t]) (rest := [.int 0, .ref ou]) C hP hD hS ct_1 (p_ask l D ty h0 rd ho nw tr ts im t hl9) kV_PinchedBillLaw_93 0 rfl rfl rfl rfl hl.1 rfl (nle rfl) d_L_ask_4 ⟨by decide, by decide, by decide, by decide⟩) (fun E ce q9 H locs hpx hS hce hcv hcl => ?_)
  rcases hpx with ⟨rfl, hx9⟩ | ⟨rfl, hx9⟩
  · refine vx_catch (own := "PinchedBillLaw") (name := "java/util/NoSuchElementException") hown (tableOf []) ⟨0, 9, 12, 19⟩ (tableOf [(0, 9, 15, 36), (0, 9, 18, 13)]) (hct.trans rfl) no_pass rfl (by decide) (hts _ k_990) (va_Nw.use rfl (hE.2.2.2.2.1 ("java/util/NoSuchElementException", "java/util/NoSuchElementException") (by decide +kernel))) hce hcv hcl ?_
    refine W.eq (g2 := F0 m 12 ls [.ref q9]) (by rfl) ?_
    have hP : va_P D vwCl [] H := fun k q h => by simp at h
    have hD : va_D A [] := hD.sub (ws' := []) [] (by decide) rfl
    have hgo9 := trivial
    refine lv_astore_n (lv' := [(3, .ref q9), (0, .ref h0), (1, .int t), (2, .ref ou)]) hx hb d_L_ask_12 rfl hl (by decide) rfl (fun ls hl => ?_)
    refine lv_iconst (v := 1) hx hb d_L_ask_13 (by decide) ?_
    exact vx_ret (ret_I (w := []) C hP hD hS [] rfl rfl (Or.inl ⟨hx9, rfl, rfl⟩) (by decide) (by decide) d_L_ask_14)
  · refine vx_catch (own := "PinchedBillLaw") (name := "java/lang/IllegalStateException") hown (tableOf [(0, 9, 12, 19)]) ⟨0, 9, 15, 36⟩ (tableOf [(0, 9, 18, 13)]) (hct.trans rfl) (one_pass (by decide) (hts _ k_990) (hE.2.2.2.2.2.1 ("java/lang/IllegalStateException", "java/util/NoSuchElementException") (by decide +kernel))) rfl (by decide) (hts _ k_1066) (va_Nw.use rfl (hE.2.2.2.2.1 ("java/lang/IllegalStateException", "java/lang/IllegalStateException") (by decide +kernel))) hce hcv hcl ?_
    refine W.eq (g2 := F0 m 15 ls [.ref q9]) (by rfl) ?_
    have hP : va_P D vwCl [] H := fun k q h => by simp at h
    have hD : va_D A [] := hD.sub (ws' := []) [] (by decide) rfl
    have hgo9 := trivial
    refine lv_astore_n (lv' := [(3, .ref q9), (0, .ref h0), (1, .int t), (2, .ref ou)]) hx hb d_L_ask_15 rfl hl (by decide) rfl (fun ls hl => ?_)
    refine lv_iconst (v := 2) hx hb d_L_ask_16 (by decide) ?_
    exact vx_ret (ret_I (w := []) C hP hD hS [] rfl rfl (Or.inr (⟨hx9, rfl, rfl⟩)) (by decide) (by decide) d_L_ask_17)
set_option maxHeartbeats 4000000 in
set_option maxRecDepth 100000 in
theorem w_both (l : Launch) (D : va_G) (ty : Nat → ClassId) (h0 : Nat) (rd : Nat) (ho : Nat) (nw : Nat) (tr : Nat) (ts : Nat) (im : Nat) (g1 : Nat) (g2 : Nat) (g3 : Nat) (n0 : Nat) (n1 : Nat) (n2 : Nat) (n3 : Nat) (b : Int32) (o : Int32) (ou : Nat) (hl9 : l.stackTraces = false) : CW l D ty ⟨"PinchedBillLaw", "both", "(LPinchedBill;II[J)I"⟩ method_29_code 5 (some .int) [(0, 10, 13, 13)] 8 134 17 22375 [.ref h0, .int b, .int o, .ref ou] [(h0, eO 8 [.ref rd, .ref ho, .ref nw, .ref tr, .ref ts, .ref im, .null]), (ho, eO 0 [.int 0, .int 1, .int 0, .int 0, .int 0, .int 0, .int 0, .int 0, .int 0, .int 0, .ref g1, .ref g2, .ref g3]), (nw, eO 5 [.ref n0, .int 0, .int 0, .ref n1, .ref n2, .ref n3]), (n0, eO 7 [.int 0, .int (-1)]), (ou, eJ (ty 3) 1 (fun _ => 0))] (QI D ty (fun (r : Int32) (w : va_W) => (((bB b = 1) ∧ (bB o = 1)) ∧ 0 = r ∧ w = [(ou, eJ (ty 3) 1 (vp_updL (fun _ => 0) 0 0))]) ∨ ((¬ ((bB b = 1) ∧ (bB o = 1))) ∧ 1 = r ∧ w = []))) := by
  refine CW_of (by decide) ?_
  intro p e s m below meth c A C hct hP hD hS
  obtain ⟨⟨hx, hb, hml, hown, hts⟩, hr, hlocks, hnm, hK, hE, hA, hZ⟩ := id C
  refine startW [.ref h0, .int b, .int o, .ref ou] 5 (nle rfl) (lv := [(0, .ref h0), (1, .int b), (2, .int o), (3, .ref ou)]) rfl (fun ls hl => ?_)
  refine lv_aload_n hx hb d_L_both_0 rfl (lv_at hl 3 rfl) ?_
  refine lv_iconst (v := 0) hx hb d_L_both_1 (by decide) ?_
  refine lv_aload_n hx hb d_L_both_2 rfl (lv_at hl 0 rfl) ?_
  refine lv_iload_n hx hb d_L_both_3 rfl (lv_at hl 1 rfl) ?_
  refine lv_iload_n hx hb d_L_both_4 rfl (lv_at hl 2 rfl) ?_
  have ct_1 : Cut [(h0, eO 8 [.ref rd, .ref ho, .ref nw, .ref tr, .ref ts, .ref im, .null]), (ho, eO 0 [.int 0, .int 1, .int 0, .int 0, .int 0, .int 0, .int 0, .int 0, .int 0, .int 0, .ref g1, .ref g2, .ref g3]), (nw, eO 5 [.ref n0, .int 0, .int 0, .ref n1, .ref n2, .ref n3]), (n0, eO 7 [.int 0, .int (-1)]), (ou, eJ (ty 3) 1 (fun _ => 0))] [(h0, eO 8 [.ref rd, .ref ho, .ref nw, .ref tr, .ref ts, .ref im, .null]), (ho, eO 0 [.int 0, .int 1, .int 0, .int 0, .int 0, .int 0, .int 0, .int 0, .int 0, .int 0, .ref g1, .ref g2, .ref g3]), (nw, eO 5 [.ref n0, .int 0, .int 0, .ref n1, .ref n2, .ref n3]), (n0, eO 7 [.int 0, .int (-1)])] [(ou, eJ (ty 3) 1 (fun _ => 0))] [0, 1, 2, 3] [4] := ⟨rfl, rfl, rfl, rfl, by decide⟩
  refine contc_I C hP hD hS ct_1 (runx_V (As := [.int b, .int o]) (rest := [.int 0, .ref ou]) C hP hD hS ct_1 (p_both l D ty h0 rd ho nw tr ts im g1 g2 g3 n0 n1 n2 n3 b o hl9) kV_PinchedBillLaw_96 0 rfl rfl rfl rfl hl.1 rfl (nle rfl) d_L_both_5 ⟨by decide, by decide, by decide, by decide⟩) (fun E ce q9 H locs hpx hS hce hcv hcl => ?_) (fun r9 w9 H locs hw9 hP hD hS => ?_)
  · obtain ⟨rfl, hx9⟩ := hpx
    refine vx_catch (own := "PinchedBillLaw") (name := "java/lang/IllegalArgumentException") hown (tableOf []) ⟨0, 10, 13, 13⟩ (tableOf []) (hct.trans rfl) no_pass rfl (by decide) (hts _ k_656) (va_Nw.use rfl (hE.2.2.2.2.1 ("java/lang/IllegalArgumentException", "java/lang/IllegalArgumentException") (by decide +kernel))) hce hcv hcl ?_
    refine W.eq (g2 := F0 m 13 ls [.ref q9]) (by rfl) ?_
    have hP : va_P D vwCl [] H := fun k q h => by simp at h
    have hD : va_D A [] := hD.sub (ws' := []) [] (by decide) rfl
    have hgo9 := trivial
    refine lv_astore (lv' := [(4, .ref q9), (0, .ref h0), (1, .int b), (2, .int o), (3, .ref ou)]) hx hb d_L_both_13 hl (by decide) rfl (fun ls hl => ?_)
    refine lv_iconst (v := 1) hx hb d_L_both_15 (by decide) ?_
    exact vx_ret (ret_I (w := []) C hP hD hS [] rfl rfl (Or.inr (⟨hx9, rfl, rfl⟩)) (by decide) (by decide) d_L_both_16)
  · obtain ⟨hp9, rfl, rfl⟩ := hw9
    have hP : va_P D vwCl [(ou, eJ (ty 3) 1 (fun _ => 0))] H := hP
    have hD : va_D A [(ou, eJ (ty 3) 1 (fun _ => 0))] := hD
    refine lv_i2l (v := 0) hx hb d_L_both_8 (by decide) ?_
    refine r_last (w := [(ou, eJ (ty 3) 1 (vp_updL (fun _ => 0) 0 0))]) C hP hD hS 0 rfl 0 rfl (by decide) (by decide) rfl d_L_both_9 (fun H locs hP hD hS => ?_)
    refine lv_goto (tgt := 17) hx hb d_L_both_10 (by decide) ?_
    refine lv_iconst (v := 0) hx hb d_L_both_17 (by decide) ?_
    exact vx_ret (ret_I (w := [(ou, eJ (ty 3) 1 (vp_updL (fun _ => 0) 0 0))]) C hP hD hS [0] rfl rfl (Or.inl ⟨hp9, rfl, rfl⟩) (by decide) (by decide) d_L_both_18)
set_option maxHeartbeats 4000000 in
set_option maxRecDepth 100000 in
theorem w_bothIn (l : Launch) (D : va_G) (ty : Nat → ClassId) (h0 : Nat) (rd : Nat) (ho : Nat) (nw : Nat) (tr : Nat) (ts : Nat) (im : Nat) (g1 : Nat) (g2 : Nat) (g3 : Nat) (n0 : Nat) (n1 : Nat) (n2 : Nat) (n3 : Nat) (b : Int32) (o : Int32) (n : Int32) (wh : Int32) (ou : Nat) (hl9 : l.stackTraces = false) : CW l D ty ⟨"PinchedBillLaw", "bothIn", "(LPinchedBill;IIII[J)I"⟩ method_30_code 7 (some .int) [(0, 14, 17, 13)] 8 136 19 22387 [.ref h0, .int b, .int o, .int n, .int wh, .ref ou] [(h0, eO 8 [.ref rd, .ref ho, .ref nw, .ref tr, .ref ts, .ref im, .null]), (ho, eO 0 [.int 0, .int 1, .int 0, .int 0, .int 0, .int 0, .int 0, .int 0, .int 0, .int 0, .ref g1, .ref g2, .ref g3]), (nw, eO 5 [.ref n0, .int 0, .int 0, .ref n1, .ref n2, .ref n3]), (n0, eO 7 [.int 0, .int (-1)]), (ou, eJ (ty 3) 1 (fun _ => 0))] (QI D ty (fun (r : Int32) (w : va_W) => (((bB b = 1) ∧ (bB o = 1) ∧ (¬ n < 0 ∧ ¬ 9999 < n) ∧ (¬ wh < 0 ∧ ¬ 1 < wh)) ∧ 0 = r ∧ w = [(ou, eJ (ty 3) 1 (vp_updL (fun _ => 0) 0 ((if wh = 0 then b else o)).toInt64))]) ∨ ((¬ ((bB b = 1) ∧ (bB o = 1) ∧ (¬ n < 0 ∧ ¬ 9999 < n) ∧ (¬ wh < 0 ∧ ¬ 1 < wh))) ∧ 1 = r ∧ w = []))) := by
  refine CW_of (by decide) ?_
  intro p e s m below meth c A C hct hP hD hS
  obtain ⟨⟨hx, hb, hml, hown, hts⟩, hr, hlocks, hnm, hK, hE, hA, hZ⟩ := id C
  refine startW [.ref h0, .int b, .int o, .int n, .int wh, .ref ou] 7 (nle rfl) (lv := [(0, .ref h0), (1, .int b), (2, .int o), (3, .int n), (4, .int wh), (5, .ref ou)]) rfl (fun ls hl => ?_)
  refine lv_aload hx hb d_L_bothIn_0 (lv_at hl 5 rfl) ?_
  refine lv_iconst (v := 0) hx hb d_L_bothIn_2 (by decide) ?_
  refine lv_aload_n hx hb d_L_bothIn_3 rfl (lv_at hl 0 rfl) ?_
  refine lv_iload_n hx hb d_L_bothIn_4 rfl (lv_at hl 1 rfl) ?_
  refine lv_iload_n hx hb d_L_bothIn_5 rfl (lv_at hl 2 rfl) ?_
  refine lv_iload_n hx hb d_L_bothIn_6 rfl (lv_at hl 3 rfl) ?_
  refine lv_iload hx hb d_L_bothIn_7 (lv_at hl 4 rfl) ?_
  have ct_1 : Cut [(h0, eO 8 [.ref rd, .ref ho, .ref nw, .ref tr, .ref ts, .ref im, .null]), (ho, eO 0 [.int 0, .int 1, .int 0, .int 0, .int 0, .int 0, .int 0, .int 0, .int 0, .int 0, .ref g1, .ref g2, .ref g3]), (nw, eO 5 [.ref n0, .int 0, .int 0, .ref n1, .ref n2, .ref n3]), (n0, eO 7 [.int 0, .int (-1)]), (ou, eJ (ty 3) 1 (fun _ => 0))] [(h0, eO 8 [.ref rd, .ref ho, .ref nw, .ref tr, .ref ts, .ref im, .null]), (ho, eO 0 [.int 0, .int 1, .int 0, .int 0, .int 0, .int 0, .int 0, .int 0, .int 0, .int 0, .ref g1, .ref g2, .ref g3]), (nw, eO 5 [.ref n0, .int 0, .int 0, .ref n1, .ref n2, .ref n3]), (n0, eO 7 [.int 0, .int (-1)])] [(ou, eJ (ty 3) 1 (fun _ => 0))] [0, 1, 2, 3] [4] := ⟨rfl, rfl, rfl, rfl, by decide⟩
  refine contc_I C hP hD hS ct_1 (runx_V (As := [.int b, .int o, .int n, .int wh]) (rest := [.int 0, .ref ou]) C hP hD hS ct_1 (p_bothIn l D ty h0 rd ho nw tr ts im g1 g2 g3 n0 n1 n2 n3 b o n wh hl9) kV_PinchedBillLaw_99 0 rfl rfl rfl rfl hl.1 rfl (nle rfl) d_L_bothIn_9 ⟨by decide, by decide, by decide, by decide⟩) (fun E ce q9 H locs hpx hS hce hcv hcl => ?_) (fun r9 w9 H locs hw9 hP hD hS => ?_)
  · obtain ⟨rfl, hx9⟩ := hpx
    refine vx_catch (own := "PinchedBillLaw") (name := "java/lang/IllegalArgumentException") hown (tableOf []) ⟨0, 14, 17, 13⟩ (tableOf []) (hct.trans rfl) no_pass rfl (by decide) (hts _ k_656) (va_Nw.use rfl (hE.2.2.2.2.1 ("java/lang/IllegalArgumentException", "java/lang/IllegalArgumentException") (by decide +kernel))) hce hcv hcl ?_
    refine W.eq (g2 := F0 m 17 ls [.ref q9]) (by rfl) ?_
    have hP : va_P D vwCl [] H := fun k q h => by simp at h
    have hD : va_D A [] := hD.sub (ws' := []) [] (by decide) rfl
    have hgo9 := trivial
    refine lv_astore (lv' := [(6, .ref q9), (0, .ref h0), (1, .int b), (2, .int o), (3, .int n), (4, .int wh), (5, .ref ou)]) hx hb d_L_bothIn_17 hl (by decide) rfl (fun ls hl => ?_)
    refine lv_iconst (v := 1) hx hb d_L_bothIn_19 (by decide) ?_
    exact vx_ret (ret_I (w := []) C hP hD hS [] rfl rfl (Or.inr (⟨hx9, rfl, rfl⟩)) (by decide) (by decide) d_L_bothIn_20)
  · obtain ⟨hp9, rfl, rfl⟩ := hw9
    have hP : va_P D vwCl [(ou, eJ (ty 3) 1 (fun _ => 0))] H := hP
    have hD : va_D A [(ou, eJ (ty 3) 1 (fun _ => 0))] := hD
    refine lv_i2l (v := ((if wh = 0 then b else o)).toInt64) hx hb d_L_bothIn_12 rfl ?_
    refine r_last (w := [(ou, eJ (ty 3) 1 (vp_updL (fun _ => 0) 0 ((if wh = 0 then b else o)).toInt64))]) C hP hD hS 0 rfl 0 rfl (by decide) (by decide) rfl d_L_bothIn_13 (fun H locs hP hD hS => ?_)
    refine lv_goto (tgt := 21) hx hb d_L_bothIn_14 (by decide) ?_
    refine lv_iconst (v := 0) hx hb d_L_bothIn_21 (by decide) ?_
    exact vx_ret (ret_I (w := [(ou, eJ (ty 3) 1 (vp_updL (fun _ => 0) 0 ((if wh = 0 then b else o)).toInt64))]) C hP hD hS [0] rfl rfl (Or.inl ⟨hp9, rfl, rfl⟩) (by decide) (by decide) d_L_bothIn_22)
set_option maxHeartbeats 4000000 in
set_option maxRecDepth 100000 in
theorem w_chance (l : Launch) (D : va_G) (ty : Nat → ClassId) (h0 : Nat) (rd : Nat) (ho : Nat) (nw : Nat) (tr : Nat) (ts : Nat) (im : Nat) (g1 : Nat) (g2 : Nat) (g3 : Nat) (n0 : Nat) (n1 : Nat) (n2 : Nat) (n3 : Nat) (b : Int32) (wh : Int32) (ou : Nat) (hl9 : l.stackTraces = false) : CW l D ty ⟨"PinchedBillLaw", "chance", "(LPinchedBill;II[J)I"⟩ method_31_code 5 (some .int) [(0, 9, 12, 13)] 8 193 17 22375 [.ref h0, .int b, .int wh, .ref ou] [(h0, eO 8 [.ref rd, .ref ho, .ref nw, .ref tr, .ref ts, .ref im, .null]), (ho, eO 0 [.int 0, .int 1, .int 0, .int 0, .int 0, .int 0, .int 0, .int 0, .int 0, .int 0, .ref g1, .ref g2, .ref g3]), (nw, eO 5 [.ref n0, .int 0, .int 0, .ref n1, .ref n2, .ref n3]), (n0, eO 7 [.int 0, .int (-1)]), (ou, eJ (ty 3) 1 (fun _ => 0))] (QI D ty (fun (r : Int32) (w : va_W) => (((bB b = 1) ∧ (¬ wh < 0 ∧ ¬ 1 < wh)) ∧ 0 = r ∧ w = [(ou, eJ (ty 3) 1 (vp_updL (fun _ => 0) 0 1))]) ∨ ((¬ ((bB b = 1) ∧ (¬ wh < 0 ∧ ¬ 1 < wh))) ∧ 1 = r ∧ w = []))) := by
  refine CW_of (by decide) ?_
  intro p e s m below meth c A C hct hP hD hS
  obtain ⟨⟨hx, hb, hml, hown, hts⟩, hr, hlocks, hnm, hK, hE, hA, hZ⟩ := id C
  refine startW [.ref h0, .int b, .int wh, .ref ou] 5 (nle rfl) (lv := [(0, .ref h0), (1, .int b), (2, .int wh), (3, .ref ou)]) rfl (fun ls hl => ?_)
  refine lv_aload_n hx hb d_L_chance_0 rfl (lv_at hl 3 rfl) ?_
  refine lv_iconst (v := 0) hx hb d_L_chance_1 (by decide) ?_
  refine lv_aload_n hx hb d_L_chance_2 rfl (lv_at hl 0 rfl) ?_
  refine lv_iload_n hx hb d_L_chance_3 rfl (lv_at hl 1 rfl) ?_
  refine lv_iload_n hx hb d_L_chance_4 rfl (lv_at hl 2 rfl) ?_
  have ct_1 : Cut [(h0, eO 8 [.ref rd, .ref ho, .ref nw, .ref tr, .ref ts, .ref im, .null]), (ho, eO 0 [.int 0, .int 1, .int 0, .int 0, .int 0, .int 0, .int 0, .int 0, .int 0, .int 0, .ref g1, .ref g2, .ref g3]), (nw, eO 5 [.ref n0, .int 0, .int 0, .ref n1, .ref n2, .ref n3]), (n0, eO 7 [.int 0, .int (-1)]), (ou, eJ (ty 3) 1 (fun _ => 0))] [(h0, eO 8 [.ref rd, .ref ho, .ref nw, .ref tr, .ref ts, .ref im, .null]), (ho, eO 0 [.int 0, .int 1, .int 0, .int 0, .int 0, .int 0, .int 0, .int 0, .int 0, .int 0, .ref g1, .ref g2, .ref g3]), (nw, eO 5 [.ref n0, .int 0, .int 0, .ref n1, .ref n2, .ref n3]), (n0, eO 7 [.int 0, .int (-1)])] [(ou, eJ (ty 3) 1 (fun _ => 0))] [0, 1, 2, 3] [4] := ⟨rfl, rfl, rfl, rfl, by decide⟩
  refine contc_L C hP hD hS ct_1 (runx_V (As := [.int b, .int wh]) (rest := [.int 0, .ref ou]) C hP hD hS ct_1 (p_chance l D ty h0 rd ho nw tr ts im g1 g2 g3 n0 n1 n2 n3 b wh hl9) kV_PinchedBillLaw_103 0 rfl rfl rfl rfl hl.1 rfl (nle rfl) d_L_chance_5 ⟨by decide, by decide, by decide, by decide⟩) (fun E ce q9 H locs hpx hS hce hcv hcl => ?_) (fun r9 w9 H locs hw9 hP hD hS => ?_)
  · obtain ⟨rfl, hx9⟩ := hpx
    refine vx_catch (own := "PinchedBillLaw") (name := "java/lang/IllegalArgumentException") hown (tableOf []) ⟨0, 9, 12, 13⟩ (tableOf []) (hct.trans rfl) no_pass rfl (by decide) (hts _ k_656) (va_Nw.use rfl (hE.2.2.2.2.1 ("java/lang/IllegalArgumentException", "java/lang/IllegalArgumentException") (by decide +kernel))) hce hcv hcl ?_
    refine W.eq (g2 := F0 m 12 ls [.ref q9]) (by rfl) ?_
    have hP : va_P D vwCl [] H := fun k q h => by simp at h
    have hD : va_D A [] := hD.sub (ws' := []) [] (by decide) rfl
    have hgo9 := trivial
    refine lv_astore (lv' := [(4, .ref q9), (0, .ref h0), (1, .int b), (2, .int wh), (3, .ref ou)]) hx hb d_L_chance_12 hl (by decide) rfl (fun ls hl => ?_)
    refine lv_iconst (v := 1) hx hb d_L_chance_14 (by decide) ?_
    exact vx_ret (ret_I (w := []) C hP hD hS [] rfl rfl (Or.inr (⟨hx9, rfl, rfl⟩)) (by decide) (by decide) d_L_chance_15)
  · obtain ⟨hp9, rfl, rfl⟩ := hw9
    have hP : va_P D vwCl [(ou, eJ (ty 3) 1 (fun _ => 0))] H := hP
    have hD : va_D A [(ou, eJ (ty 3) 1 (fun _ => 0))] := hD
    refine r_last (w := [(ou, eJ (ty 3) 1 (vp_updL (fun _ => 0) 0 1))]) C hP hD hS 0 rfl 0 rfl (by decide) (by decide) rfl d_L_chance_8 (fun H locs hP hD hS => ?_)
    refine lv_goto (tgt := 16) hx hb d_L_chance_9 (by decide) ?_
    refine lv_iconst (v := 0) hx hb d_L_chance_16 (by decide) ?_
    exact vx_ret (ret_I (w := [(ou, eJ (ty 3) 1 (vp_updL (fun _ => 0) 0 1))]) C hP hD hS [0] rfl rfl (Or.inl ⟨hp9, rfl, rfl⟩) (by decide) (by decide) d_L_chance_17)
set_option maxHeartbeats 4000000 in
set_option maxRecDepth 100000 in
theorem w_away (l : Launch) (D : va_G) (ty : Nat → ClassId) (h0 : Nat) (rd : Nat) (ho : Nat) (nw : Nat) (tr : Nat) (ts : Nat) (im : Nat) (g1 : Nat) (g2 : Nat) (g3 : Nat) (n0 : Nat) (n1 : Nat) (n2 : Nat) (n3 : Nat) (b : Int32) (ou : Nat) (hl9 : l.stackTraces = false) : CW l D ty ⟨"PinchedBillLaw", "away", "(LPinchedBill;I[J)I"⟩ method_32_code 4 (some .int) [(0, 9, 12, 13)] 8 193 16 22369 [.ref h0, .int b, .ref ou] [(h0, eO 8 [.ref rd, .ref ho, .ref nw, .ref tr, .ref ts, .ref im, .null]), (ho, eO 0 [.int 0, .int 1, .int 0, .int 0, .int 0, .int 0, .int 0, .int 0, .int 0, .int 0, .ref g1, .ref g2, .ref g3]), (nw, eO 5 [.ref n0, .int 0, .int 0, .ref n1, .ref n2, .ref n3]), (n0, eO 7 [.int 0, .int (-1)]), (ou, eJ (ty 3) 1 (fun _ => 0))] (QI D ty (fun (r : Int32) (w : va_W) => (((bB b = 1)) ∧ 0 = r ∧ w = [(ou, eJ (ty 3) 1 (vp_updL (fun _ => 0) 0 (-1)))]) ∨ ((¬ ((bB b = 1))) ∧ 1 = r ∧ w = []))) := by
  refine CW_of (by decide) ?_
  intro p e s m below meth c A C hct hP hD hS
  obtain ⟨⟨hx, hb, hml, hown, hts⟩, hr, hlocks, hnm, hK, hE, hA, hZ⟩ := id C
  refine startW [.ref h0, .int b, .ref ou] 4 (nle rfl) (lv := [(0, .ref h0), (1, .int b), (2, .ref ou)]) rfl (fun ls hl => ?_)
  refine lv_aload_n hx hb d_L_away_0 rfl (lv_at hl 2 rfl) ?_
  refine lv_iconst (v := 0) hx hb d_L_away_1 (by decide) ?_
  refine lv_aload_n hx hb d_L_away_2 rfl (lv_at hl 0 rfl) ?_
  refine lv_iload_n hx hb d_L_away_3 rfl (lv_at hl 1 rfl) ?_
  have ct_1 : Cut [(h0, eO 8 [.ref rd, .ref ho, .ref nw, .ref tr, .ref ts, .ref im, .null]), (ho, eO 0 [.int 0, .int 1, .int 0, .int 0, .int 0, .int 0, .int 0, .int 0, .int 0, .int 0, .ref g1, .ref g2, .ref g3]), (nw, eO 5 [.ref n0, .int 0, .int 0, .ref n1, .ref n2, .ref n3]), (n0, eO 7 [.int 0, .int (-1)]), (ou, eJ (ty 3) 1 (fun _ => 0))] [(h0, eO 8 [.ref rd, .ref ho, .ref nw, .ref tr, .ref ts, .ref im, .null]), (ho, eO 0 [.int 0, .int 1, .int 0, .int 0, .int 0, .int 0, .int 0, .int 0, .int 0, .int 0, .ref g1, .ref g2, .ref g3]), (nw, eO 5 [.ref n0, .int 0, .int 0, .ref n1, .ref n2, .ref n3]), (n0, eO 7 [.int 0, .int (-1)])] [(ou, eJ (ty 3) 1 (fun _ => 0))] [0, 1, 2, 3] [4] := ⟨rfl, rfl, rfl, rfl, by decide⟩
  refine contc_I C hP hD hS ct_1 (runx_V (As := [.int b]) (rest := [.int 0, .ref ou]) C hP hD hS ct_1 (p_away l D ty h0 rd ho nw tr ts im g1 g2 g3 n0 n1 n2 n3 b hl9) kV_PinchedBillLaw_107 0 rfl rfl rfl rfl hl.1 rfl (nle rfl) d_L_away_4 ⟨by decide, by decide, by decide, by decide⟩) (fun E ce q9 H locs hpx hS hce hcv hcl => ?_) (fun r9 w9 H locs hw9 hP hD hS => ?_)
  · obtain ⟨rfl, hx9⟩ := hpx
    refine vx_catch (own := "PinchedBillLaw") (name := "java/lang/IllegalArgumentException") hown (tableOf []) ⟨0, 9, 12, 13⟩ (tableOf []) (hct.trans rfl) no_pass rfl (by decide) (hts _ k_656) (va_Nw.use rfl (hE.2.2.2.2.1 ("java/lang/IllegalArgumentException", "java/lang/IllegalArgumentException") (by decide +kernel))) hce hcv hcl ?_
    refine W.eq (g2 := F0 m 12 ls [.ref q9]) (by rfl) ?_
    have hP : va_P D vwCl [] H := fun k q h => by simp at h
    have hD : va_D A [] := hD.sub (ws' := []) [] (by decide) rfl
    have hgo9 := trivial
    refine lv_astore_n (lv' := [(3, .ref q9), (0, .ref h0), (1, .int b), (2, .ref ou)]) hx hb d_L_away_12 rfl hl (by decide) rfl (fun ls hl => ?_)
    refine lv_iconst (v := 1) hx hb d_L_away_13 (by decide) ?_
    exact vx_ret (ret_I (w := []) C hP hD hS [] rfl rfl (Or.inr (⟨hx9, rfl, rfl⟩)) (by decide) (by decide) d_L_away_14)
  · obtain ⟨hp9, rfl, rfl⟩ := hw9
    have hP : va_P D vwCl [(ou, eJ (ty 3) 1 (fun _ => 0))] H := hP
    have hD : va_D A [(ou, eJ (ty 3) 1 (fun _ => 0))] := hD
    refine lv_i2l (v := (-1)) hx hb d_L_away_7 (by decide) ?_
    refine r_last (w := [(ou, eJ (ty 3) 1 (vp_updL (fun _ => 0) 0 (-1)))]) C hP hD hS 0 rfl 0 rfl (by decide) (by decide) rfl d_L_away_8 (fun H locs hP hD hS => ?_)
    refine lv_goto (tgt := 15) hx hb d_L_away_9 (by decide) ?_
    refine lv_iconst (v := 0) hx hb d_L_away_15 (by decide) ?_
    exact vx_ret (ret_I (w := [(ou, eJ (ty 3) 1 (vp_updL (fun _ => 0) 0 (-1)))]) C hP hD hS [0] rfl rfl (Or.inl ⟨hp9, rfl, rfl⟩) (by decide) (by decide) d_L_away_16)
set_option maxHeartbeats 4000000 in
set_option maxRecDepth 100000 in
theorem w_tray (l : Launch) (D : va_G) (ty : Nat → ClassId) (h0 : Nat) (rd : Nat) (ho : Nat) (nw : Nat) (tr : Nat) (ts : Nat) (im : Nat) (t : Int32) (so : Int32) (ma : Int32) (hl9 : l.stackTraces = false) : CW l D ty ⟨"PinchedBillLaw", "tray", "(LPinchedBill;III)I"⟩ method_33_code 5 (some .int) [(0, 7, 10, 19), (0, 7, 14, 13)] 8 128 5 51 [.ref h0, .int t, .int so, .int ma] [(h0, eO 8 [.ref rd, .ref ho, .ref nw, .ref tr, .ref ts, .ref im, .null]), (ts, eQ (ty 4) 4 (fun _ => none))] (QI D ty (fun (r : Int32) (w : va_W) => (((¬ t < 0 ∧ t < 4) ∧ (¬ so < 0 ∧ ¬ 3 < so) ∧ (¬ ma < 0 ∧ ¬ 30 < ma)) ∧ 0 = r ∧ w = []) ∨ ((¬ (¬ t < 0 ∧ t < 4)) ∧ 1 = r ∧ w = []) ∨ (((¬ t < 0 ∧ t < 4) ∧ ¬ ((¬ so < 0 ∧ ¬ 3 < so) ∧ (¬ ma < 0 ∧ ¬ 30 < ma))) ∧ 2 = r ∧ w = []))) := by
  refine CW_of (by decide) ?_
  intro p e s m below meth c A C hct hP hD hS
  obtain ⟨⟨hx, hb, hml, hown, hts⟩, hr, hlocks, hnm, hK, hE, hA, hZ⟩ := id C
  refine startW [.ref h0, .int t, .int so, .int ma] 5 (nle rfl) (lv := [(0, .ref h0), (1, .int t), (2, .int so), (3, .int ma)]) rfl (fun ls hl => ?_)
  refine lv_aload_n hx hb d_L_tray_0 rfl (lv_at hl 0 rfl) ?_
  refine lv_iload_n hx hb d_L_tray_1 rfl (lv_at hl 1 rfl) ?_
  refine lv_iload_n hx hb d_L_tray_2 rfl (lv_at hl 2 rfl) ?_
  refine lv_iload_n hx hb d_L_tray_3 rfl (lv_at hl 3 rfl) ?_
  have ct_1 : Cut [(h0, eO 8 [.ref rd, .ref ho, .ref nw, .ref tr, .ref ts, .ref im, .null]), (ts, eQ (ty 4) 4 (fun _ => none))] [(h0, eO 8 [.ref rd, .ref ho, .ref nw, .ref tr, .ref ts, .ref im, .null]), (ts, eQ (ty 4) 4 (fun _ => none))] [] [0, 1] [] := ⟨rfl, rfl, rfl, rfl, by decide⟩
  refine contc_V C hP hD hS ct_1 (runx_V (As := [.int t, .int so, .int ma]) (rest := []) C hP hD hS ct_1 (p_tray l D ty h0 rd ho nw tr ts im t so ma hl9) kV_PinchedBillLaw_110 0 rfl rfl rfl rfl hl.1 rfl (nle rfl) d_L_tray_4 ⟨by decide, by decide, by decide, by decide⟩) (fun E ce q9 H locs hpx hS hce hcv hcl => ?_) (fun w9 H locs hw9 hP hD hS => ?_)
  · rcases hpx with ⟨rfl, hx9⟩ | ⟨rfl, hx9⟩
    · refine vx_catch (own := "PinchedBillLaw") (name := "java/util/NoSuchElementException") hown (tableOf []) ⟨0, 7, 10, 19⟩ (tableOf [(0, 7, 14, 13)]) (hct.trans rfl) no_pass rfl (by decide) (hts _ k_990) (va_Nw.use rfl (hE.2.2.2.2.1 ("java/util/NoSuchElementException", "java/util/NoSuchElementException") (by decide +kernel))) hce hcv hcl ?_
      refine W.eq (g2 := F0 m 10 ls [.ref q9]) (by rfl) ?_
      have hP : va_P D vwCl [] H := fun k q h => by simp at h
      have hD : va_D A [] := hD.sub (ws' := []) [] (by decide) rfl
      have hgo9 := trivial
      refine lv_astore (lv' := [(4, .ref q9), (0, .ref h0), (1, .int t), (2, .int so), (3, .int ma)]) hx hb d_L_tray_10 hl (by decide) rfl (fun ls hl => ?_)
      refine lv_iconst (v := 1) hx hb d_L_tray_12 (by decide) ?_
      exact vx_ret (ret_I (w := []) C hP hD hS [] rfl rfl (Or.inr (Or.inl ⟨hx9, rfl, rfl⟩)) (by decide) (by decide) d_L_tray_13)
    · refine vx_catch (own := "PinchedBillLaw") (name := "java/lang/IllegalArgumentException") hown (tableOf [(0, 7, 10, 19)]) ⟨0, 7, 14, 13⟩ (tableOf []) (hct.trans rfl) (one_pass (by decide) (hts _ k_990) (hE.2.2.2.2.2.1 ("java/lang/IllegalArgumentException", "java/util/NoSuchElementException") (by decide +kernel))) rfl (by decide) (hts _ k_656) (va_Nw.use rfl (hE.2.2.2.2.1 ("java/lang/IllegalArgumentException", "java/lang/IllegalArgumentException") (by decide +kernel))) hce hcv hcl ?_
      refine W.eq (g2 := F0 m 14 ls [.ref q9]) (by rfl) ?_
      have hP : va_P D vwCl [] H := fun k q h => by simp at h
      have hD : va_D A [] := hD.sub (ws' := []) [] (by decide) rfl
      have hgo9 := trivial
      refine lv_astore (lv' := [(4, .ref q9), (0, .ref h0), (1, .int t), (2, .int so), (3, .int ma)]) hx hb d_L_tray_14 hl (by decide) rfl (fun ls hl => ?_)
      refine lv_iconst (v := 2) hx hb d_L_tray_16 (by decide) ?_
      exact vx_ret (ret_I (w := []) C hP hD hS [] rfl rfl (Or.inr (Or.inr (⟨hx9, rfl, rfl⟩))) (by decide) (by decide) d_L_tray_17)
  · obtain ⟨hp9, rfl⟩ := hw9
    have hP : va_P D vwCl [] H := hP
    have hD : va_D A [] := hD
    refine lv_goto (tgt := 18) hx hb d_L_tray_7 (by decide) ?_
    refine lv_iconst (v := 0) hx hb d_L_tray_18 (by decide) ?_
    exact vx_ret (ret_I (w := []) C hP hD hS [] rfl rfl (Or.inl ⟨hp9, rfl, rfl⟩) (by decide) (by decide) d_L_tray_19)
set_option maxHeartbeats 4000000 in
set_option maxRecDepth 100000 in
theorem w_write (l : Launch) (D : va_G) (ty : Nat → ClassId) (h0 : Nat) (rd : Nat) (ho : Nat) (nw : Nat) (tr : Nat) (ts : Nat) (im : Nat) (t : Int32) (pl : Int32) (vv : Int64) (ou : Nat) (hl9 : l.stackTraces = false) : CW l D ty ⟨"PinchedBillLaw", "write", "(LPinchedBill;IIJ[J)I"⟩ method_34_code 7 (some .int) [(0, 11, 14, 19), (0, 11, 18, 36), (0, 11, 22, 118)] 9 149 2 12 [.ref h0, .int t, .int pl, .long vv, .ref ou] [(h0, eO 8 [.ref rd, .ref ho, .ref nw, .ref tr, .ref ts, .ref im, .null]), (ts, eQ (ty 4) 4 (fun _ => none)), (ou, eJ (ty 3) 1 (fun _ => 0))] (QI D ty (fun (r : Int32) (w : va_W) => ((¬ (¬ t < 0 ∧ t < 4)) ∧ 1 = r ∧ w = []) ∨ ((¬ t < 0 ∧ t < 4) ∧ 2 = r ∧ w = []))) := by
  refine CW_of (by decide) ?_
  intro p e s m below meth c A C hct hP hD hS
  obtain ⟨⟨hx, hb, hml, hown, hts⟩, hr, hlocks, hnm, hK, hE, hA, hZ⟩ := id C
  refine startW [.ref h0, .int t, .int pl, .long vv, .ref ou] 7 (nle rfl) (lv := [(0, .ref h0), (1, .int t), (2, .int pl), (3, .long vv), (5, .ref ou)]) rfl (fun ls hl => ?_)
  refine lv_aload hx hb d_L_write_0 (lv_at hl 4 rfl) ?_
  refine lv_iconst (v := 0) hx hb d_L_write_2 (by decide) ?_
  refine lv_aload_n hx hb d_L_write_3 rfl (lv_at hl 0 rfl) ?_
  refine lv_iload_n hx hb d_L_write_4 rfl (lv_at hl 1 rfl) ?_
  refine lv_iload_n hx hb d_L_write_5 rfl (lv_at hl 2 rfl) ?_
  refine lv_lload_n hx hb d_L_write_6 rfl (lv_at hl 3 rfl) ?_
  have ct_1 : Cut [(h0, eO 8 [.ref rd, .ref ho, .ref nw, .ref tr, .ref ts, .ref im, .null]), (ts, eQ (ty 4) 4 (fun _ => none)), (ou, eJ (ty 3) 1 (fun _ => 0))] [(h0, eO 8 [.ref rd, .ref ho, .ref nw, .ref tr, .ref ts, .ref im, .null]), (ts, eQ (ty 4) 4 (fun _ => none))] [(ou, eJ (ty 3) 1 (fun _ => 0))] [0, 1] [2] := ⟨rfl, rfl, rfl, rfl, by decide⟩
  refine contc_N C hD hS ct_1 (runx_V (As := [.int t, .int pl, .long vv]) (rest := [.int 0, .ref ou]) C hP hD hS ct_1 (p_write l D ty h0 rd ho nw tr ts im t pl vv hl9) kV_PinchedBillLaw_114 0 rfl rfl rfl rfl hl.1 rfl (nle rfl) d_L_write_7 ⟨by decide, by decide, by decide, by decide⟩) (fun E ce q9 H locs hpx hS hce hcv hcl => ?_)
  rcases hpx with ⟨rfl, hx9⟩ | ⟨rfl, hx9⟩
  · refine vx_catch (own := "PinchedBillLaw") (name := "java/util/NoSuchElementException") hown (tableOf []) ⟨0, 11, 14, 19⟩ (tableOf [(0, 11, 18, 36), (0, 11, 22, 118)]) (hct.trans rfl) no_pass rfl (by decide) (hts _ k_990) (va_Nw.use rfl (hE.2.2.2.2.1 ("java/util/NoSuchElementException", "java/util/NoSuchElementException") (by decide +kernel))) hce hcv hcl ?_
    refine W.eq (g2 := F0 m 14 ls [.ref q9]) (by rfl) ?_
    have hP : va_P D vwCl [] H := fun k q h => by simp at h
    have hD : va_D A [] := hD.sub (ws' := []) [] (by decide) rfl
    have hgo9 := trivial
    refine lv_astore (lv' := [(6, .ref q9), (0, .ref h0), (1, .int t), (2, .int pl), (3, .long vv), (5, .ref ou)]) hx hb d_L_write_14 hl (by decide) rfl (fun ls hl => ?_)
    refine lv_iconst (v := 1) hx hb d_L_write_16 (by decide) ?_
    exact vx_ret (ret_I (w := []) C hP hD hS [] rfl rfl (Or.inl ⟨hx9, rfl, rfl⟩) (by decide) (by decide) d_L_write_17)
  · refine vx_catch (own := "PinchedBillLaw") (name := "java/lang/IllegalStateException") hown (tableOf [(0, 11, 14, 19)]) ⟨0, 11, 18, 36⟩ (tableOf [(0, 11, 22, 118)]) (hct.trans rfl) (one_pass (by decide) (hts _ k_990) (hE.2.2.2.2.2.1 ("java/lang/IllegalStateException", "java/util/NoSuchElementException") (by decide +kernel))) rfl (by decide) (hts _ k_1066) (va_Nw.use rfl (hE.2.2.2.2.1 ("java/lang/IllegalStateException", "java/lang/IllegalStateException") (by decide +kernel))) hce hcv hcl ?_
    refine W.eq (g2 := F0 m 18 ls [.ref q9]) (by rfl) ?_
    have hP : va_P D vwCl [] H := fun k q h => by simp at h
    have hD : va_D A [] := hD.sub (ws' := []) [] (by decide) rfl
    have hgo9 := trivial
    refine lv_astore (lv' := [(6, .ref q9), (0, .ref h0), (1, .int t), (2, .int pl), (3, .long vv), (5, .ref ou)]) hx hb d_L_write_18 hl (by decide) rfl (fun ls hl => ?_)
    refine lv_iconst (v := 2) hx hb d_L_write_20 (by decide) ?_
    exact vx_ret (ret_I (w := []) C hP hD hS [] rfl rfl (Or.inr (⟨hx9, rfl, rfl⟩)) (by decide) (by decide) d_L_write_21)
set_option maxHeartbeats 4000000 in
set_option maxRecDepth 100000 in
theorem w_copy (l : Launch) (D : va_G) (ty : Nat → ClassId) (h0 : Nat) (rd : Nat) (ho : Nat) (nw : Nat) (tr : Nat) (ts : Nat) (im : Nat) (t : Int32) (b : Int32) (ou : Nat) (hl9 : l.stackTraces = false) : CW l D ty ⟨"PinchedBillLaw", "copy", "(LPinchedBill;II[J)I"⟩ method_35_code 5 (some .int) [(0, 10, 13, 19), (0, 10, 17, 36), (0, 10, 21, 13)] 9 147 2 12 [.ref h0, .int t, .int b, .ref ou] [(h0, eO 8 [.ref rd, .ref ho, .ref nw, .ref tr, .ref ts, .ref im, .null]), (ts, eQ (ty 4) 4 (fun _ => none)), (ou, eJ (ty 3) 1 (fun _ => 0))] (QI D ty (fun (r : Int32) (w : va_W) => ((¬ (¬ t < 0 ∧ t < 4)) ∧ 1 = r ∧ w = []) ∨ ((¬ t < 0 ∧ t < 4) ∧ 2 = r ∧ w = []))) := by
  refine CW_of (by decide) ?_
  intro p e s m below meth c A C hct hP hD hS
  obtain ⟨⟨hx, hb, hml, hown, hts⟩, hr, hlocks, hnm, hK, hE, hA, hZ⟩ := id C
  refine startW [.ref h0, .int t, .int b, .ref ou] 5 (nle rfl) (lv := [(0, .ref h0), (1, .int t), (2, .int b), (3, .ref ou)]) rfl (fun ls hl => ?_)
  refine lv_aload_n hx hb d_L_copy_0 rfl (lv_at hl 3 rfl) ?_
  refine lv_iconst (v := 0) hx hb d_L_copy_1 (by decide) ?_
  refine lv_aload_n hx hb d_L_copy_2 rfl (lv_at hl 0 rfl) ?_
  refine lv_iload_n hx hb d_L_copy_3 rfl (lv_at hl 1 rfl) ?_
  refine lv_iload_n hx hb d_L_copy_4 rfl (lv_at hl 2 rfl) ?_
  have ct_1 : Cut [(h0, eO 8 [.ref rd, .ref ho, .ref nw, .ref tr, .ref ts, .ref im, .null]), (ts, eQ (ty 4) 4 (fun _ => none)), (ou, eJ (ty 3) 1 (fun _ => 0))] [(h0, eO 8 [.ref rd, .ref ho, .ref nw, .ref tr, .ref ts, .ref im, .null]), (ts, eQ (ty 4) 4 (fun _ => none))] [(ou, eJ (ty 3) 1 (fun _ => 0))] [0, 1] [2] := ⟨rfl, rfl, rfl, rfl, by decide⟩
  refine contc_N C hD hS ct_1 (runx_V (As := [.int t, .int b]) (rest := [.int 0, .ref ou]) C hP hD hS ct_1 (p_copy l D ty h0 rd ho nw tr ts im t b hl9) kV_PinchedBillLaw_120 0 rfl rfl rfl rfl hl.1 rfl (nle rfl) d_L_copy_5 ⟨by decide, by decide, by decide, by decide⟩) (fun E ce q9 H locs hpx hS hce hcv hcl => ?_)
  rcases hpx with ⟨rfl, hx9⟩ | ⟨rfl, hx9⟩
  · refine vx_catch (own := "PinchedBillLaw") (name := "java/util/NoSuchElementException") hown (tableOf []) ⟨0, 10, 13, 19⟩ (tableOf [(0, 10, 17, 36), (0, 10, 21, 13)]) (hct.trans rfl) no_pass rfl (by decide) (hts _ k_990) (va_Nw.use rfl (hE.2.2.2.2.1 ("java/util/NoSuchElementException", "java/util/NoSuchElementException") (by decide +kernel))) hce hcv hcl ?_
    refine W.eq (g2 := F0 m 13 ls [.ref q9]) (by rfl) ?_
    have hP : va_P D vwCl [] H := fun k q h => by simp at h
    have hD : va_D A [] := hD.sub (ws' := []) [] (by decide) rfl
    have hgo9 := trivial
    refine lv_astore (lv' := [(4, .ref q9), (0, .ref h0), (1, .int t), (2, .int b), (3, .ref ou)]) hx hb d_L_copy_13 hl (by decide) rfl (fun ls hl => ?_)
    refine lv_iconst (v := 1) hx hb d_L_copy_15 (by decide) ?_
    exact vx_ret (ret_I (w := []) C hP hD hS [] rfl rfl (Or.inl ⟨hx9, rfl, rfl⟩) (by decide) (by decide) d_L_copy_16)
  · refine vx_catch (own := "PinchedBillLaw") (name := "java/lang/IllegalStateException") hown (tableOf [(0, 10, 13, 19)]) ⟨0, 10, 17, 36⟩ (tableOf [(0, 10, 21, 13)]) (hct.trans rfl) (one_pass (by decide) (hts _ k_990) (hE.2.2.2.2.2.1 ("java/lang/IllegalStateException", "java/util/NoSuchElementException") (by decide +kernel))) rfl (by decide) (hts _ k_1066) (va_Nw.use rfl (hE.2.2.2.2.1 ("java/lang/IllegalStateException", "java/lang/IllegalStateException") (by decide +kernel))) hce hcv hcl ?_
    refine W.eq (g2 := F0 m 17 ls [.ref q9]) (by rfl) ?_
    have hP : va_P D vwCl [] H := fun k q h => by simp at h
    have hD : va_D A [] := hD.sub (ws' := []) [] (by decide) rfl
    have hgo9 := trivial
    refine lv_astore (lv' := [(4, .ref q9), (0, .ref h0), (1, .int t), (2, .int b), (3, .ref ou)]) hx hb d_L_copy_17 hl (by decide) rfl (fun ls hl => ?_)
    refine lv_iconst (v := 2) hx hb d_L_copy_19 (by decide) ?_
    exact vx_ret (ret_I (w := []) C hP hD hS [] rfl rfl (Or.inr (⟨hx9, rfl, rfl⟩)) (by decide) (by decide) d_L_copy_20)
set_option maxHeartbeats 4000000 in
set_option maxRecDepth 100000 in
theorem w_image (l : Launch) (D : va_G) (ty : Nat → ClassId) (h0 : Nat) (rd : Nat) (ho : Nat) (nw : Nat) (tr : Nat) (ts : Nat) (im : Nat) (g1 : Nat) (g2 : Nat) (g3 : Nat) (n0 : Nat) (n1 : Nat) (n2 : Nat) (n3 : Nat) (t : Int32) (hl9 : l.stackTraces = false) : CW l D ty ⟨"PinchedBillLaw", "image", "(LPinchedBill;I)I"⟩ method_36_code 3 (some .int) [(0, 5, 8, 19)] 8 124 11 991 [.ref h0, .int t] [(h0, eO 8 [.ref rd, .ref ho, .ref nw, .ref tr, .ref ts, .ref im, .null]), (im, eQ (ty 5) 3 (fun _ => none)), (ho, eO 0 [.int 0, .int 1, .int 0, .int 0, .int 0, .int 0, .int 0, .int 0, .int 0, .int 0, .ref g1, .ref g2, .ref g3]), (g1, eI (ty 0) 24 (fun _ => 0)), (g2, eI (ty 0) 8 (fun _ => 0)), (g3, eI (ty 0) 900 (fun _ => 0)), (nw, eO 5 [.ref n0, .int 0, .int 0, .ref n1, .ref n2, .ref n3]), (n0, eO 7 [.int 0, .int (-1)]), (n1, eI (ty 0) 10 (fun _ => 0)), (n2, eI (ty 0) 10 (fun _ => 0)), (n3, eI (ty 0) 10 (fun _ => 0))] (QI D ty (fun (r : Int32) (w : va_W) => ((¬ t < 0 ∧ t < 3) ∧ 0 = r ∧ w = []) ∨ ((¬ (¬ t < 0 ∧ t < 3)) ∧ 1 = r ∧ w = []))) := by
  refine CW_of (by decide) ?_
  intro p e s m below meth c A C hct hP hD hS
  obtain ⟨⟨hx, hb, hml, hown, hts⟩, hr, hlocks, hnm, hK, hE, hA, hZ⟩ := id C
  refine startW [.ref h0, .int t] 3 (nle rfl) (lv := [(0, .ref h0), (1, .int t)]) rfl (fun ls hl => ?_)
  refine lv_aload_n hx hb d_L_image_0 rfl (lv_at hl 0 rfl) ?_
  refine lv_iload_n hx hb d_L_image_1 rfl (lv_at hl 1 rfl) ?_
  have ct_1 : Cut [(h0, eO 8 [.ref rd, .ref ho, .ref nw, .ref tr, .ref ts, .ref im, .null]), (im, eQ (ty 5) 3 (fun _ => none)), (ho, eO 0 [.int 0, .int 1, .int 0, .int 0, .int 0, .int 0, .int 0, .int 0, .int 0, .int 0, .ref g1, .ref g2, .ref g3]), (g1, eI (ty 0) 24 (fun _ => 0)), (g2, eI (ty 0) 8 (fun _ => 0)), (g3, eI (ty 0) 900 (fun _ => 0)), (nw, eO 5 [.ref n0, .int 0, .int 0, .ref n1, .ref n2, .ref n3]), (n0, eO 7 [.int 0, .int (-1)]), (n1, eI (ty 0) 10 (fun _ => 0)), (n2, eI (ty 0) 10 (fun _ => 0)), (n3, eI (ty 0) 10 (fun _ => 0))] [(h0, eO 8 [.ref rd, .ref ho, .ref nw, .ref tr, .ref ts, .ref im, .null]), (im, eQ (ty 5) 3 (fun _ => none)), (ho, eO 0 [.int 0, .int 1, .int 0, .int 0, .int 0, .int 0, .int 0, .int 0, .int 0, .int 0, .ref g1, .ref g2, .ref g3]), (g1, eI (ty 0) 24 (fun _ => 0)), (g2, eI (ty 0) 8 (fun _ => 0)), (g3, eI (ty 0) 900 (fun _ => 0)), (nw, eO 5 [.ref n0, .int 0, .int 0, .ref n1, .ref n2, .ref n3]), (n0, eO 7 [.int 0, .int (-1)]), (n1, eI (ty 0) 10 (fun _ => 0)), (n2, eI (ty 0) 10 (fun _ => 0)), (n3, eI (ty 0) 10 (fun _ => 0))] [] [0, 1, 2, 3, 4, 5, 6, 7, 8, 9, 10] [] := ⟨rfl, rfl, rfl, rfl, by decide⟩
  refine contc_V C hP hD hS ct_1 (runx_V (As := [.int t]) (rest := []) C hP hD hS ct_1 (p_image l D ty h0 rd ho nw tr ts im g1 g2 g3 n0 n1 n2 n3 t hl9) kV_PinchedBillLaw_123 0 rfl rfl rfl rfl hl.1 rfl (nle rfl) d_L_image_2 ⟨by decide, by decide, by decide, by decide⟩) (fun E ce q9 H locs hpx hS hce hcv hcl => ?_) (fun w9 H locs hw9 hP hD hS => ?_)
  · obtain ⟨rfl, hx9⟩ := hpx
    refine vx_catch (own := "PinchedBillLaw") (name := "java/util/NoSuchElementException") hown (tableOf []) ⟨0, 5, 8, 19⟩ (tableOf []) (hct.trans rfl) no_pass rfl (by decide) (hts _ k_990) (va_Nw.use rfl (hE.2.2.2.2.1 ("java/util/NoSuchElementException", "java/util/NoSuchElementException") (by decide +kernel))) hce hcv hcl ?_
    refine W.eq (g2 := F0 m 8 ls [.ref q9]) (by rfl) ?_
    have hP : va_P D vwCl [] H := fun k q h => by simp at h
    have hD : va_D A [] := hD.sub (ws' := []) [] (by decide) rfl
    have hgo9 := trivial
    refine lv_astore_n (lv' := [(2, .ref q9), (0, .ref h0), (1, .int t)]) hx hb d_L_image_8 rfl hl (by decide) rfl (fun ls hl => ?_)
    refine lv_iconst (v := 1) hx hb d_L_image_9 (by decide) ?_
    exact vx_ret (ret_I (w := []) C hP hD hS [] rfl rfl (Or.inr (⟨hx9, rfl, rfl⟩)) (by decide) (by decide) d_L_image_10)
  · obtain ⟨hp9, rfl⟩ := hw9
    have hP : va_P D vwCl [] H := hP
    have hD : va_D A [] := hD
    refine lv_goto (tgt := 11) hx hb d_L_image_5 (by decide) ?_
    refine lv_iconst (v := 0) hx hb d_L_image_11 (by decide) ?_
    exact vx_ret (ret_I (w := []) C hP hD hS [] rfl rfl (Or.inl ⟨hp9, rfl, rfl⟩) (by decide) (by decide) d_L_image_12)
set_option maxHeartbeats 4000000 in
set_option maxRecDepth 100000 in
theorem w_restore (l : Launch) (D : va_G) (ty : Nat → ClassId) (h0 : Nat) (rd : Nat) (ho : Nat) (nw : Nat) (tr : Nat) (ts : Nat) (im : Nat) (t : Int32) (hl9 : l.stackTraces = false) : CW l D ty ⟨"PinchedBillLaw", "restore", "(LPinchedBill;I)I"⟩ method_37_code 3 (some .int) [(0, 5, 8, 19), (0, 5, 11, 36)] 8 124 2 12 [.ref h0, .int t] [(h0, eO 8 [.ref rd, .ref ho, .ref nw, .ref tr, .ref ts, .ref im, .null]), (im, eQ (ty 5) 3 (fun _ => none))] (QI D ty (fun (r : Int32) (w : va_W) => ((¬ (¬ t < 0 ∧ t < 3)) ∧ 1 = r ∧ w = []) ∨ ((¬ t < 0 ∧ t < 3) ∧ 2 = r ∧ w = []))) := by
  refine CW_of (by decide) ?_
  intro p e s m below meth c A C hct hP hD hS
  obtain ⟨⟨hx, hb, hml, hown, hts⟩, hr, hlocks, hnm, hK, hE, hA, hZ⟩ := id C
  refine startW [.ref h0, .int t] 3 (nle rfl) (lv := [(0, .ref h0), (1, .int t)]) rfl (fun ls hl => ?_)
  refine lv_aload_n hx hb d_L_restore_0 rfl (lv_at hl 0 rfl) ?_
  refine lv_iload_n hx hb d_L_restore_1 rfl (lv_at hl 1 rfl) ?_
  have ct_1 : Cut [(h0, eO 8 [.ref rd, .ref ho, .ref nw, .ref tr, .ref ts, .ref im, .null]), (im, eQ (ty 5) 3 (fun _ => none))] [(h0, eO 8 [.ref rd, .ref ho, .ref nw, .ref tr, .ref ts, .ref im, .null]), (im, eQ (ty 5) 3 (fun _ => none))] [] [0, 1] [] := ⟨rfl, rfl, rfl, rfl, by decide⟩
  refine contc_N C hD hS ct_1 (runx_V (As := [.int t]) (rest := []) C hP hD hS ct_1 (p_restore l D ty h0 rd ho nw tr ts im t hl9) kV_PinchedBillLaw_127 0 rfl rfl rfl rfl hl.1 rfl (nle rfl) d_L_restore_2 ⟨by decide, by decide, by decide, by decide⟩) (fun E ce q9 H locs hpx hS hce hcv hcl => ?_)
  rcases hpx with ⟨rfl, hx9⟩ | ⟨rfl, hx9⟩
  · refine vx_catch (own := "PinchedBillLaw") (name := "java/util/NoSuchElementException") hown (tableOf []) ⟨0, 5, 8, 19⟩ (tableOf [(0, 5, 11, 36)]) (hct.trans rfl) no_pass rfl (by decide) (hts _ k_990) (va_Nw.use rfl (hE.2.2.2.2.1 ("java/util/NoSuchElementException", "java/util/NoSuchElementException") (by decide +kernel))) hce hcv hcl ?_
    refine W.eq (g2 := F0 m 8 ls [.ref q9]) (by rfl) ?_
    have hP : va_P D vwCl [] H := fun k q h => by simp at h
    have hD : va_D A [] := hD.sub (ws' := []) [] (by decide) rfl
    have hgo9 := trivial
    refine lv_astore_n (lv' := [(2, .ref q9), (0, .ref h0), (1, .int t)]) hx hb d_L_restore_8 rfl hl (by decide) rfl (fun ls hl => ?_)
    refine lv_iconst (v := 1) hx hb d_L_restore_9 (by decide) ?_
    exact vx_ret (ret_I (w := []) C hP hD hS [] rfl rfl (Or.inl ⟨hx9, rfl, rfl⟩) (by decide) (by decide) d_L_restore_10)
  · refine vx_catch (own := "PinchedBillLaw") (name := "java/lang/IllegalStateException") hown (tableOf [(0, 5, 8, 19)]) ⟨0, 5, 11, 36⟩ (tableOf []) (hct.trans rfl) (one_pass (by decide) (hts _ k_990) (hE.2.2.2.2.2.1 ("java/lang/IllegalStateException", "java/util/NoSuchElementException") (by decide +kernel))) rfl (by decide) (hts _ k_1066) (va_Nw.use rfl (hE.2.2.2.2.1 ("java/lang/IllegalStateException", "java/lang/IllegalStateException") (by decide +kernel))) hce hcv hcl ?_
    refine W.eq (g2 := F0 m 11 ls [.ref q9]) (by rfl) ?_
    have hP : va_P D vwCl [] H := fun k q h => by simp at h
    have hD : va_D A [] := hD.sub (ws' := []) [] (by decide) rfl
    have hgo9 := trivial
    refine lv_astore_n (lv' := [(2, .ref q9), (0, .ref h0), (1, .int t)]) hx hb d_L_restore_11 rfl hl (by decide) rfl (fun ls hl => ?_)
    refine lv_iconst (v := 2) hx hb d_L_restore_12 (by decide) ?_
    exact vx_ret (ret_I (w := []) C hP hD hS [] rfl rfl (Or.inr (⟨hx9, rfl, rfl⟩)) (by decide) (by decide) d_L_restore_13)

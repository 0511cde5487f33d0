theorem d_X8_person_0 : decode prog_1_method_5_code 0 = .ok (.aload_n 0, 1) := by decide +kernel
theorem d_X8_person_1 : decode prog_1_method_5_code 1 = .ok (.iload_n 1, 1) := by decide +kernel
theorem k_998 : Cond.code ⟨"PinchedBill", "mustBePerson", "(I)V"⟩ prog_1_method_52_code 2 none ∈ gd_tbl := gd_in 998 (by decide +kernel) (by decide +kernel)
theorem k_995 : Cond.methodLink "PinchedBill" 81 ⟨"PinchedBill", "mustBePerson", "(I)V"⟩ ∈ gd_tbl := gd_in 995 (by decide +kernel) (by decide +kernel)
theorem k_997 : Cond.instanceMethod ⟨"PinchedBill", "mustBePerson", "(I)V"⟩ ∈ gd_tbl := gd_in 997 (by decide +kernel) (by decide +kernel)
theorem k_34 : Cond.selects "PinchedBill" ⟨"PinchedBill", "mustBePerson", "(I)V"⟩ ⟨"PinchedBill", "mustBePerson", "(I)V"⟩ ∈ gd_tbl := gd_in 34 (by decide +kernel) (by decide +kernel)
theorem kV_PinchedBill_81 : kV "PinchedBill" 81 ⟨"PinchedBill", "mustBePerson", "(I)V"⟩ prog_1_method_52_code 2 none 1 := ⟨k_995, k_997, k_34, k_117, k_998, by decide, by decide, by decide +kernel⟩
theorem d_X8_person_2 : decode prog_1_method_5_code 2 = .ok (.invokevirtual 81, 3) := by decide +kernel
theorem d_X8_spoken_0 : decode prog_1_method_10_code 0 = .ok (.aload_n 0, 1) := by decide +kernel
theorem d_X8_spoken_1 : decode prog_1_method_10_code 1 = .ok (.iload_n 2, 1) := by decide +kernel
theorem d_X8_spoken_2 : decode prog_1_method_10_code 2 = .ok (.invokevirtual 81, 3) := by decide +kernel
theorem d_X8_share_0 : decode prog_1_method_32_code 0 = .ok (.aload_n 0, 1) := by decide +kernel
theorem d_X8_share_1 : decode prog_1_method_32_code 1 = .ok (.iload_n 2, 1) := by decide +kernel
theorem d_X8_share_2 : decode prog_1_method_32_code 2 = .ok (.invokevirtual 81, 3) := by decide +kernel
theorem d_X8_undo_0 : decode prog_1_method_15_code 0 = .ok (.iload_n 1, 1) := by decide +kernel
theorem d_X8_undo_1 : decode prog_1_method_15_code 1 = .ok (.iconst 1, 1) := by decide +kernel
theorem d_X8_undo_2 : decode prog_1_method_15_code 2 = .ok (.aload_n 0, 1) := by decide +kernel
theorem d_X8_undo_3 : decode prog_1_method_15_code 3 = .ok (.getfield 26, 3) := by decide +kernel
theorem k_299 : Cond.fieldLink "PinchedBill" 139 "PinchedBill$Standing" "deeds" "I" ∈ gd_tbl := gd_in 299 (by decide +kernel) (by decide +kernel)
theorem d_X8_undo_6 : decode prog_1_method_15_code 6 = .ok (.getfield 139, 3) := by decide +kernel
theorem d_X8_undo_9 : decode prog_1_method_15_code 9 = .ok (.invokestatic 53, 3) := by decide +kernel
theorem d_X8_judge_0 : decode prog_1_method_16_code 0 = .ok (.aload_n 0, 1) := by decide +kernel
theorem d_X8_judge_1 : decode prog_1_method_16_code 1 = .ok (.iload_n 1, 1) := by decide +kernel
theorem d_X8_judge_2 : decode prog_1_method_16_code 2 = .ok (.invokevirtual 145, 3) := by decide +kernel
theorem d_X8_perform_0 : decode prog_1_method_17_code 0 = .ok (.aload_n 0, 1) := by decide +kernel
theorem d_X8_perform_1 : decode prog_1_method_17_code 1 = .ok (.aload_n 0, 1) := by decide +kernel
theorem d_X8_perform_2 : decode prog_1_method_17_code 2 = .ok (.iload_n 1, 1) := by decide +kernel
theorem d_X8_perform_3 : decode prog_1_method_17_code 3 = .ok (.invokevirtual 145, 3) := by decide +kernel
theorem d_X8_seen_0 : decode prog_1_method_36_code 0 = .ok (.aload_n 0, 1) := by decide +kernel
theorem d_X8_seen_1 : decode prog_1_method_36_code 1 = .ok (.invokevirtual 184, 3) := by decide +kernel
theorem d_X8_seen_4 : decode prog_1_method_36_code 4 = .ok (.aload_n 0, 1) := by decide +kernel
theorem d_X8_seen_5 : decode prog_1_method_36_code 5 = .ok (.iload_n 1, 1) := by decide +kernel
theorem k_1284 : Cond.code ⟨"PinchedBill", "traySeen", "(I)LPinchedBill$Tray;"⟩ prog_1_method_56_code 6 (some (.object "PinchedBill$Tray")) ∈ gd_tbl := gd_in 1284 (by decide +kernel) (by decide +kernel)
theorem k_1281 : Cond.methodLink "PinchedBill" 236 ⟨"PinchedBill", "traySeen", "(I)LPinchedBill$Tray;"⟩ ∈ gd_tbl := gd_in 1281 (by decide +kernel) (by decide +kernel)
theorem k_1283 : Cond.instanceMethod ⟨"PinchedBill", "traySeen", "(I)LPinchedBill$Tray;"⟩ ∈ gd_tbl := gd_in 1283 (by decide +kernel) (by decide +kernel)
theorem k_39 : Cond.selects "PinchedBill" ⟨"PinchedBill", "traySeen", "(I)LPinchedBill$Tray;"⟩ ⟨"PinchedBill", "traySeen", "(I)LPinchedBill$Tray;"⟩ ∈ gd_tbl := gd_in 39 (by decide +kernel) (by decide +kernel)
theorem kV_PinchedBill_236 : kV "PinchedBill" 236 ⟨"PinchedBill", "traySeen", "(I)LPinchedBill$Tray;"⟩ prog_1_method_56_code 6 (some (.object "PinchedBill$Tray")) 1 := ⟨k_1281, k_1283, k_39, k_117, k_1284, by decide, by decide, by decide +kernel⟩
theorem d_X8_seen_6 : decode prog_1_method_36_code 6 = .ok (.invokevirtual 236, 3) := by decide +kernel
theorem d_X8_seenAt_0 : decode prog_1_method_37_code 0 = .ok (.aload_n 0, 1) := by decide +kernel
theorem d_X8_seenAt_1 : decode prog_1_method_37_code 1 = .ok (.iload_n 1, 1) := by decide +kernel
theorem d_X8_seenAt_2 : decode prog_1_method_37_code 2 = .ok (.invokevirtual 236, 3) := by decide +kernel
theorem d_X8_ask_0 : decode prog_1_method_38_code 0 = .ok (.aload_n 0, 1) := by decide +kernel
theorem d_X8_ask_1 : decode prog_1_method_38_code 1 = .ok (.iload_n 1, 1) := by decide +kernel
theorem d_X8_ask_2 : decode prog_1_method_38_code 2 = .ok (.invokevirtual 236, 3) := by decide +kernel
theorem d_X8_write_0 : decode prog_1_method_44_code 0 = .ok (.aload_n 0, 1) := by decide +kernel
theorem d_X8_write_1 : decode prog_1_method_44_code 1 = .ok (.iload_n 1, 1) := by decide +kernel
theorem d_X8_write_2 : decode prog_1_method_44_code 2 = .ok (.invokevirtual 145, 3) := by decide +kernel
theorem d_X8_copy_0 : decode prog_1_method_45_code 0 = .ok (.aload_n 0, 1) := by decide +kernel
theorem d_X8_copy_1 : decode prog_1_method_45_code 1 = .ok (.iload_n 1, 1) := by decide +kernel
theorem d_X8_copy_2 : decode prog_1_method_45_code 2 = .ok (.invokevirtual 145, 3) := by decide +kernel
theorem d_X8_restore_0 : decode prog_1_method_47_code 0 = .ok (.iload_n 1, 1) := by decide +kernel
theorem k_1459 : Cond.code ⟨"PinchedBill", "mustBeImage", "(I)V"⟩ prog_1_method_53_code 1 none ∈ gd_tbl := gd_in 1459 (by decide +kernel) (by decide +kernel)
theorem k_1457 : Cond.methodLink "PinchedBill" 298 ⟨"PinchedBill", "mustBeImage", "(I)V"⟩ ∈ gd_tbl := gd_in 1457 (by decide +kernel) (by decide +kernel)
theorem k_1458 : Cond.static ⟨"PinchedBill", "mustBeImage", "(I)V"⟩ ∈ gd_tbl := gd_in 1458 (by decide +kernel) (by decide +kernel)
theorem kS_PinchedBill_298 : kS "PinchedBill" 298 ⟨"PinchedBill", "mustBeImage", "(I)V"⟩ prog_1_method_53_code 1 none 1 := ⟨k_1457, k_1458, k_117, k_1459, by decide, by decide, by decide +kernel⟩
theorem d_X8_restore_1 : decode prog_1_method_47_code 1 = .ok (.invokestatic 298, 3) := by decide +kernel
theorem d_X8_restore_4 : decode prog_1_method_47_code 4 = .ok (.aload_n 0, 1) := by decide +kernel
theorem d_X8_restore_5 : decode prog_1_method_47_code 5 = .ok (.getfield 41, 3) := by decide +kernel
theorem d_X8_restore_8 : decode prog_1_method_47_code 8 = .ok (.iload_n 1, 1) := by decide +kernel
theorem d_X8_restore_9 : decode prog_1_method_47_code 9 = .ok (.aaload, 1) := by decide +kernel
theorem d_X8_restore_10 : decode prog_1_method_47_code 10 = .ok (.astore_n 2, 1) := by decide +kernel
theorem d_X8_restore_11 : decode prog_1_method_47_code 11 = .ok (.aload_n 2, 1) := by decide +kernel
theorem d_X8_restore_12 : decode prog_1_method_47_code 12 = .ok (.ifnonnull 14, 3) := by decide +kernel
theorem d_X8_restore_15 : decode prog_1_method_47_code 15 = .ok (.new 306, 3) := by decide +kernel
theorem d_X8_restore_18 : decode prog_1_method_47_code 18 = .ok (.dup, 1) := by decide +kernel
theorem d_X8_restore_19 : decode prog_1_method_47_code 19 = .ok (.ldc_w 308, 3) := by decide +kernel
theorem d_X8_restore_22 : decode prog_1_method_47_code 22 = .ok (.invokespecial 310, 3) := by decide +kernel
theorem d_X8_restore_25 : decode prog_1_method_47_code 25 = .ok (.athrow, 1) := by decide +kernel
theorem d_X0_copyFrom_0 : decode prog_2_method_3_code 0 = .ok (.aload_n 0, 1) := by decide +kernel
theorem d_X0_copyFrom_1 : decode prog_2_method_3_code 1 = .ok (.aload_n 1, 1) := by decide +kernel
theorem k_163 : Cond.fieldLink "PinchedBill$House" 25 "PinchedBill$House" "textLines" "I" ∈ gd_tbl := gd_in 163 (by decide +kernel) (by decide +kernel)
theorem d_X0_copyFrom_2 : decode prog_2_method_3_code 2 = .ok (.getfield 25, 3) := by decide +kernel
theorem d_X0_copyFrom_5 : decode prog_2_method_3_code 5 = .ok (.putfield 25, 3) := by decide +kernel
theorem d_X0_copyFrom_8 : decode prog_2_method_3_code 8 = .ok (.aload_n 0, 1) := by decide +kernel
theorem d_X0_copyFrom_9 : decode prog_2_method_3_code 9 = .ok (.aload_n 1, 1) := by decide +kernel
theorem d_X0_copyFrom_10 : decode prog_2_method_3_code 10 = .ok (.getfield 21, 3) := by decide +kernel
theorem d_X0_copyFrom_13 : decode prog_2_method_3_code 13 = .ok (.putfield 21, 3) := by decide +kernel
theorem d_X0_copyFrom_16 : decode prog_2_method_3_code 16 = .ok (.aload_n 0, 1) := by decide +kernel
theorem d_X0_copyFrom_17 : decode prog_2_method_3_code 17 = .ok (.aload_n 1, 1) := by decide +kernel
theorem d_X0_copyFrom_18 : decode prog_2_method_3_code 18 = .ok (.getfield 28, 3) := by decide +kernel
theorem d_X0_copyFrom_21 : decode prog_2_method_3_code 21 = .ok (.putfield 28, 3) := by decide +kernel
theorem d_X0_copyFrom_24 : decode prog_2_method_3_code 24 = .ok (.aload_n 0, 1) := by decide +kernel
theorem d_X0_copyFrom_25 : decode prog_2_method_3_code 25 = .ok (.aload_n 1, 1) := by decide +kernel
theorem k_176 : Cond.fieldLink "PinchedBill$House" 31 "PinchedBill$House" "sitting" "I" ∈ gd_tbl := gd_in 176 (by decide +kernel) (by decide +kernel)
theorem d_X0_copyFrom_26 : decode prog_2_method_3_code 26 = .ok (.getfield 31, 3) := by decide +kernel
theorem d_X0_copyFrom_29 : decode prog_2_method_3_code 29 = .ok (.putfield 31, 3) := by decide +kernel
theorem d_X0_copyFrom_32 : decode prog_2_method_3_code 32 = .ok (.aload_n 0, 1) := by decide +kernel
theorem d_X0_copyFrom_33 : decode prog_2_method_3_code 33 = .ok (.aload_n 1, 1) := by decide +kernel
theorem k_179 : Cond.fieldLink "PinchedBill$House" 34 "PinchedBill$House" "firstBill" "I" ∈ gd_tbl := gd_in 179 (by decide +kernel) (by decide +kernel)
theorem d_X0_copyFrom_34 : decode prog_2_method_3_code 34 = .ok (.getfield 34, 3) := by decide +kernel
theorem d_X0_copyFrom_37 : decode prog_2_method_3_code 37 = .ok (.putfield 34, 3) := by decide +kernel
theorem d_X0_copyFrom_40 : decode prog_2_method_3_code 40 = .ok (.aload_n 0, 1) := by decide +kernel
theorem d_X0_copyFrom_41 : decode prog_2_method_3_code 41 = .ok (.aload_n 1, 1) := by decide +kernel
theorem k_181 : Cond.fieldLink "PinchedBill$House" 37 "PinchedBill$House" "codes" "I" ∈ gd_tbl := gd_in 181 (by decide +kernel) (by decide +kernel)
theorem d_X0_copyFrom_42 : decode prog_2_method_3_code 42 = .ok (.getfield 37, 3) := by decide +kernel
theorem d_X0_copyFrom_45 : decode prog_2_method_3_code 45 = .ok (.putfield 37, 3) := by decide +kernel
theorem d_X0_copyFrom_48 : decode prog_2_method_3_code 48 = .ok (.aload_n 0, 1) := by decide +kernel
theorem d_X0_copyFrom_49 : decode prog_2_method_3_code 49 = .ok (.aload_n 1, 1) := by decide +kernel
theorem k_183 : Cond.fieldLink "PinchedBill$House" 40 "PinchedBill$House" "pinchesFrom" "I" ∈ gd_tbl := gd_in 183 (by decide +kernel) (by decide +kernel)
theorem d_X0_copyFrom_50 : decode prog_2_method_3_code 50 = .ok (.getfield 40, 3) := by decide +kernel
theorem d_X0_copyFrom_53 : decode prog_2_method_3_code 53 = .ok (.putfield 40, 3) := by decide +kernel
theorem d_X0_copyFrom_56 : decode prog_2_method_3_code 56 = .ok (.aload_n 0, 1) := by decide +kernel
theorem d_X0_copyFrom_57 : decode prog_2_method_3_code 57 = .ok (.aload_n 1, 1) := by decide +kernel
theorem k_186 : Cond.fieldLink "PinchedBill$House" 43 "PinchedBill$House" "pinchesTo" "I" ∈ gd_tbl := gd_in 186 (by decide +kernel) (by decide +kernel)
theorem d_X0_copyFrom_58 : decode prog_2_method_3_code 58 = .ok (.getfield 43, 3) := by decide +kernel
theorem d_X0_copyFrom_61 : decode prog_2_method_3_code 61 = .ok (.putfield 43, 3) := by decide +kernel
theorem d_X0_copyFrom_64 : decode prog_2_method_3_code 64 = .ok (.aload_n 0, 1) := by decide +kernel
theorem d_X0_copyFrom_65 : decode prog_2_method_3_code 65 = .ok (.aload_n 1, 1) := by decide +kernel
theorem k_189 : Cond.fieldLink "PinchedBill$House" 46 "PinchedBill$House" "changesFrom" "I" ∈ gd_tbl := gd_in 189 (by decide +kernel) (by decide +kernel)
theorem d_X0_copyFrom_66 : decode prog_2_method_3_code 66 = .ok (.getfield 46, 3) := by decide +kernel
theorem d_X0_copyFrom_69 : decode prog_2_method_3_code 69 = .ok (.putfield 46, 3) := by decide +kernel
theorem d_X0_copyFrom_72 : decode prog_2_method_3_code 72 = .ok (.aload_n 0, 1) := by decide +kernel
theorem d_X0_copyFrom_73 : decode prog_2_method_3_code 73 = .ok (.aload_n 1, 1) := by decide +kernel
theorem k_192 : Cond.fieldLink "PinchedBill$House" 49 "PinchedBill$House" "changesTo" "I" ∈ gd_tbl := gd_in 192 (by decide +kernel) (by decide +kernel)
theorem d_X0_copyFrom_74 : decode prog_2_method_3_code 74 = .ok (.getfield 49, 3) := by decide +kernel
theorem d_X0_copyFrom_77 : decode prog_2_method_3_code 77 = .ok (.putfield 49, 3) := by decide +kernel
theorem d_X0_copyFrom_80 : decode prog_2_method_3_code 80 = .ok (.aload_n 1, 1) := by decide +kernel
theorem d_X0_copyFrom_81 : decode prog_2_method_3_code 81 = .ok (.getfield 9, 3) := by decide +kernel
theorem d_X0_copyFrom_84 : decode prog_2_method_3_code 84 = .ok (.iconst 0, 1) := by decide +kernel
theorem d_X0_copyFrom_85 : decode prog_2_method_3_code 85 = .ok (.aload_n 0, 1) := by decide +kernel
theorem d_X0_copyFrom_86 : decode prog_2_method_3_code 86 = .ok (.getfield 9, 3) := by decide +kernel
theorem d_X0_copyFrom_89 : decode prog_2_method_3_code 89 = .ok (.iconst 0, 1) := by decide +kernel
theorem d_X0_copyFrom_90 : decode prog_2_method_3_code 90 = .ok (.aload_n 0, 1) := by decide +kernel
theorem d_X0_copyFrom_91 : decode prog_2_method_3_code 91 = .ok (.getfield 9, 3) := by decide +kernel
theorem d_X0_copyFrom_94 : decode prog_2_method_3_code 94 = .ok (.arraylength, 1) := by decide +kernel
theorem k_968 : Cond.methodLink "PinchedBill$House" 58 ⟨"java/lang/System", "arraycopy", "(Ljava/lang/Object;ILjava/lang/Object;II)V"⟩ ∈ gd_tbl := gd_in 968 (by decide +kernel) (by decide +kernel)
theorem d_X0_copyFrom_95 : decode prog_2_method_3_code 95 = .ok (.invokestatic 58, 3) := by decide +kernel
theorem d_X0_copyFrom_98 : decode prog_2_method_3_code 98 = .ok (.aload_n 1, 1) := by decide +kernel
theorem d_X0_copyFrom_99 : decode prog_2_method_3_code 99 = .ok (.getfield 15, 3) := by decide +kernel
theorem d_X0_copyFrom_102 : decode prog_2_method_3_code 102 = .ok (.iconst 0, 1) := by decide +kernel
theorem d_X0_copyFrom_103 : decode prog_2_method_3_code 103 = .ok (.aload_n 0, 1) := by decide +kernel
theorem d_X0_copyFrom_104 : decode prog_2_method_3_code 104 = .ok (.getfield 15, 3) := by decide +kernel
theorem d_X0_copyFrom_107 : decode prog_2_method_3_code 107 = .ok (.iconst 0, 1) := by decide +kernel
theorem d_X0_copyFrom_108 : decode prog_2_method_3_code 108 = .ok (.aload_n 0, 1) := by decide +kernel
theorem d_X0_copyFrom_109 : decode prog_2_method_3_code 109 = .ok (.getfield 15, 3) := by decide +kernel
theorem d_X0_copyFrom_112 : decode prog_2_method_3_code 112 = .ok (.arraylength, 1) := by decide +kernel
theorem d_X0_copyFrom_113 : decode prog_2_method_3_code 113 = .ok (.invokestatic 58, 3) := by decide +kernel
theorem d_X0_copyFrom_116 : decode prog_2_method_3_code 116 = .ok (.aload_n 1, 1) := by decide +kernel
theorem d_X0_copyFrom_117 : decode prog_2_method_3_code 117 = .ok (.getfield 18, 3) := by decide +kernel
theorem d_X0_copyFrom_120 : decode prog_2_method_3_code 120 = .ok (.iconst 0, 1) := by decide +kernel
theorem d_X0_copyFrom_121 : decode prog_2_method_3_code 121 = .ok (.aload_n 0, 1) := by decide +kernel
theorem d_X0_copyFrom_122 : decode prog_2_method_3_code 122 = .ok (.getfield 18, 3) := by decide +kernel
theorem d_X0_copyFrom_125 : decode prog_2_method_3_code 125 = .ok (.iconst 0, 1) := by decide +kernel
theorem d_X0_copyFrom_126 : decode prog_2_method_3_code 126 = .ok (.aload_n 0, 1) := by decide +kernel
theorem d_X0_copyFrom_127 : decode prog_2_method_3_code 127 = .ok (.getfield 18, 3) := by decide +kernel
theorem d_X0_copyFrom_130 : decode prog_2_method_3_code 130 = .ok (.arraylength, 1) := by decide +kernel
theorem d_X0_copyFrom_131 : decode prog_2_method_3_code 131 = .ok (.invokestatic 58, 3) := by decide +kernel
theorem d_X0_copyFrom_134 : decode prog_2_method_3_code 134 = .ok (.return_, 1) := by decide +kernel
theorem d_X5_copyFrom_0 : decode prog_7_method_6_code 0 = .ok (.aload_n 0, 1) := by decide +kernel
theorem d_X5_copyFrom_1 : decode prog_7_method_6_code 1 = .ok (.getfield 12, 3) := by decide +kernel
theorem d_X5_copyFrom_4 : decode prog_7_method_6_code 4 = .ok (.aload_n 1, 1) := by decide +kernel
theorem d_X5_copyFrom_5 : decode prog_7_method_6_code 5 = .ok (.getfield 12, 3) := by decide +kernel
theorem d_X5_copyFrom_8 : decode prog_7_method_6_code 8 = .ok (.getfield 48, 3) := by decide +kernel
theorem d_X5_copyFrom_11 : decode prog_7_method_6_code 11 = .ok (.putfield 48, 3) := by decide +kernel
theorem d_X5_copyFrom_14 : decode prog_7_method_6_code 14 = .ok (.aload_n 0, 1) := by decide +kernel
theorem d_X5_copyFrom_15 : decode prog_7_method_6_code 15 = .ok (.getfield 12, 3) := by decide +kernel
theorem d_X5_copyFrom_18 : decode prog_7_method_6_code 18 = .ok (.aload_n 1, 1) := by decide +kernel
theorem d_X5_copyFrom_19 : decode prog_7_method_6_code 19 = .ok (.getfield 12, 3) := by decide +kernel
theorem d_X5_copyFrom_22 : decode prog_7_method_6_code 22 = .ok (.getfield 51, 3) := by decide +kernel
theorem d_X5_copyFrom_25 : decode prog_7_method_6_code 25 = .ok (.putfield 51, 3) := by decide +kernel
theorem d_X5_copyFrom_28 : decode prog_7_method_6_code 28 = .ok (.aload_n 0, 1) := by decide +kernel
theorem d_X5_copyFrom_29 : decode prog_7_method_6_code 29 = .ok (.aload_n 1, 1) := by decide +kernel
theorem d_X5_copyFrom_30 : decode prog_7_method_6_code 30 = .ok (.getfield 41, 3) := by decide +kernel
theorem d_X5_copyFrom_33 : decode prog_7_method_6_code 33 = .ok (.putfield 41, 3) := by decide +kernel
theorem d_X5_copyFrom_36 : decode prog_7_method_6_code 36 = .ok (.aload_n 0, 1) := by decide +kernel
theorem d_X5_copyFrom_37 : decode prog_7_method_6_code 37 = .ok (.aload_n 1, 1) := by decide +kernel
theorem d_X5_copyFrom_38 : decode prog_7_method_6_code 38 = .ok (.getfield 42, 3) := by decide +kernel
theorem d_X5_copyFrom_41 : decode prog_7_method_6_code 41 = .ok (.putfield 42, 3) := by decide +kernel
theorem d_X5_copyFrom_44 : decode prog_7_method_6_code 44 = .ok (.aload_n 1, 1) := by decide +kernel
theorem d_X5_copyFrom_45 : decode prog_7_method_6_code 45 = .ok (.getfield 18, 3) := by decide +kernel
theorem d_X5_copyFrom_48 : decode prog_7_method_6_code 48 = .ok (.iconst 0, 1) := by decide +kernel
theorem d_X5_copyFrom_49 : decode prog_7_method_6_code 49 = .ok (.aload_n 0, 1) := by decide +kernel
theorem d_X5_copyFrom_50 : decode prog_7_method_6_code 50 = .ok (.getfield 18, 3) := by decide +kernel
theorem d_X5_copyFrom_53 : decode prog_7_method_6_code 53 = .ok (.iconst 0, 1) := by decide +kernel
theorem d_X5_copyFrom_54 : decode prog_7_method_6_code 54 = .ok (.bipush 10, 2) := by decide +kernel
theorem d_X5_copyFrom_56 : decode prog_7_method_6_code 56 = .ok (.invokestatic 54, 3) := by decide +kernel
theorem d_X5_copyFrom_59 : decode prog_7_method_6_code 59 = .ok (.aload_n 1, 1) := by decide +kernel
theorem d_X5_copyFrom_60 : decode prog_7_method_6_code 60 = .ok (.getfield 22, 3) := by decide +kernel
theorem d_X5_copyFrom_63 : decode prog_7_method_6_code 63 = .ok (.iconst 0, 1) := by decide +kernel
theorem d_X5_copyFrom_64 : decode prog_7_method_6_code 64 = .ok (.aload_n 0, 1) := by decide +kernel
theorem d_X5_copyFrom_65 : decode prog_7_method_6_code 65 = .ok (.getfield 22, 3) := by decide +kernel
theorem d_X5_copyFrom_68 : decode prog_7_method_6_code 68 = .ok (.iconst 0, 1) := by decide +kernel
theorem d_X5_copyFrom_69 : decode prog_7_method_6_code 69 = .ok (.bipush 10, 2) := by decide +kernel
theorem d_X5_copyFrom_71 : decode prog_7_method_6_code 71 = .ok (.invokestatic 54, 3) := by decide +kernel
theorem d_X5_copyFrom_74 : decode prog_7_method_6_code 74 = .ok (.aload_n 1, 1) := by decide +kernel
theorem d_X5_copyFrom_75 : decode prog_7_method_6_code 75 = .ok (.getfield 25, 3) := by decide +kernel
theorem d_X5_copyFrom_78 : decode prog_7_method_6_code 78 = .ok (.iconst 0, 1) := by decide +kernel
theorem d_X5_copyFrom_79 : decode prog_7_method_6_code 79 = .ok (.aload_n 0, 1) := by decide +kernel
theorem d_X5_copyFrom_80 : decode prog_7_method_6_code 80 = .ok (.getfield 25, 3) := by decide +kernel
theorem d_X5_copyFrom_83 : decode prog_7_method_6_code 83 = .ok (.iconst 0, 1) := by decide +kernel
theorem d_X5_copyFrom_84 : decode prog_7_method_6_code 84 = .ok (.bipush 10, 2) := by decide +kernel
theorem d_X5_copyFrom_86 : decode prog_7_method_6_code 86 = .ok (.invokestatic 54, 3) := by decide +kernel
theorem d_X5_copyFrom_89 : decode prog_7_method_6_code 89 = .ok (.return_, 1) := by decide +kernel
theorem d_X1_init_0 : decode prog_3_method_1_code 0 = .ok (.aload_n 0, 1) := by decide +kernel
theorem k_1465 : Cond.methodLink "PinchedBill$Image" 1 ⟨"java/lang/Object", "<init>", "()V"⟩ ∈ gd_tbl := gd_in 1465 (by decide +kernel) (by decide +kernel)
theorem d_X1_init_1 : decode prog_3_method_1_code 1 = .ok (.invokespecial 1, 3) := by decide +kernel
theorem d_X1_init_4 : decode prog_3_method_1_code 4 = .ok (.aload_n 0, 1) := by decide +kernel
theorem k_1466 : Cond.classLink "PinchedBill$Image" 7 "PinchedBill$House" ∈ gd_tbl := gd_in 1466 (by decide +kernel) (by decide +kernel)
theorem d_X1_init_5 : decode prog_3_method_1_code 5 = .ok (.new 7, 3) := by decide +kernel
theorem d_X1_init_8 : decode prog_3_method_1_code 8 = .ok (.dup, 1) := by decide +kernel
theorem k_1467 : Cond.methodLink "PinchedBill$Image" 9 ⟨"PinchedBill$House", "<init>", "()V"⟩ ∈ gd_tbl := gd_in 1467 (by decide +kernel) (by decide +kernel)
theorem kI_PinchedBill_Image_9 : kI "PinchedBill$Image" 9 ⟨"PinchedBill$House", "<init>", "()V"⟩ prog_2_method_1_code 1 0 := ⟨k_1467, k_160, k_119, k_161, rfl, by decide, by decide, by decide +kernel⟩
theorem d_X1_init_9 : decode prog_3_method_1_code 9 = .ok (.invokespecial 9, 3) := by decide +kernel
theorem k_1470 : Cond.fieldLink "PinchedBill$Image" 10 "PinchedBill$Image" "house" "LPinchedBill$House;" ∈ gd_tbl := gd_in 1470 (by decide +kernel) (by decide +kernel)
theorem d_X1_init_12 : decode prog_3_method_1_code 12 = .ok (.putfield 10, 3) := by decide +kernel
theorem d_X1_init_15 : decode prog_3_method_1_code 15 = .ok (.aload_n 0, 1) := by decide +kernel
theorem k_1468 : Cond.classLink "PinchedBill$Image" 16 "PinchedBill$Standing" ∈ gd_tbl := gd_in 1468 (by decide +kernel) (by decide +kernel)
theorem d_X1_init_16 : decode prog_3_method_1_code 16 = .ok (.new 16, 3) := by decide +kernel
theorem d_X1_init_19 : decode prog_3_method_1_code 19 = .ok (.dup, 1) := by decide +kernel
theorem kIN_PinchedBill_Image_18 : kIN "PinchedBill$Image" 18 "PinchedBill" ⟨"PinchedBill$Standing", "<init>", "()V"⟩ prog_7_method_1_code 1 0 := ⟨by decide +kernel, k_270, k_120, k_271, rfl, by decide, by decide, by decide +kernel⟩
theorem d_X1_init_20 : decode prog_3_method_1_code 20 = .ok (.invokespecial 18, 3) := by decide +kernel
theorem k_1472 : Cond.fieldLink "PinchedBill$Image" 19 "PinchedBill$Image" "standing" "LPinchedBill$Standing;" ∈ gd_tbl := gd_in 1472 (by decide +kernel) (by decide +kernel)
theorem d_X1_init_23 : decode prog_3_method_1_code 23 = .ok (.putfield 19, 3) := by decide +kernel
theorem d_X1_init_26 : decode prog_3_method_1_code 26 = .ok (.return_, 1) := by decide +kernel
theorem d_X8_image_0 : decode prog_1_method_46_code 0 = .ok (.iload_n 1, 1) := by decide +kernel
theorem d_X8_image_1 : decode prog_1_method_46_code 1 = .ok (.invokestatic 298, 3) := by decide +kernel
theorem d_X8_image_4 : decode prog_1_method_46_code 4 = .ok (.aload_n 0, 1) := by decide +kernel
theorem d_X8_image_5 : decode prog_1_method_46_code 5 = .ok (.getfield 41, 3) := by decide +kernel
theorem d_X8_image_8 : decode prog_1_method_46_code 8 = .ok (.iload_n 1, 1) := by decide +kernel
theorem d_X8_image_9 : decode prog_1_method_46_code 9 = .ok (.aaload, 1) := by decide +kernel
theorem d_X8_image_10 : decode prog_1_method_46_code 10 = .ok (.astore_n 2, 1) := by decide +kernel
theorem d_X8_image_11 : decode prog_1_method_46_code 11 = .ok (.aload_n 2, 1) := by decide +kernel
theorem d_X8_image_12 : decode prog_1_method_46_code 12 = .ok (.ifnonnull 18, 3) := by decide +kernel
theorem k_1461 : Cond.instantiable "PinchedBill$Image" 2 ∈ gd_tbl := gd_in 1461 (by decide +kernel) (by decide +kernel)
theorem k_142 : Cond.initialized "PinchedBill$Image" ∈ gd_tbl := gd_in 142 (by decide +kernel) (by decide +kernel)
theorem d_X8_image_15 : decode prog_1_method_46_code 15 = .ok (.new 39, 3) := by decide +kernel
theorem d_X8_image_18 : decode prog_1_method_46_code 18 = .ok (.dup, 1) := by decide +kernel
theorem k_1464 : Cond.code ⟨"PinchedBill$Image", "<init>", "()V"⟩ prog_3_method_1_code 1 none ∈ gd_tbl := gd_in 1464 (by decide +kernel) (by decide +kernel)
theorem k_1463 : Cond.instanceMethod ⟨"PinchedBill$Image", "<init>", "()V"⟩ ∈ gd_tbl := gd_in 1463 (by decide +kernel) (by decide +kernel)
theorem kIN_PinchedBill_301 : kIN "PinchedBill" 301 "PinchedBill" ⟨"PinchedBill$Image", "<init>", "()V"⟩ prog_3_method_1_code 1 0 := ⟨by decide +kernel, k_1463, k_142, k_1464, rfl, by decide, by decide, by decide +kernel⟩
theorem d_X8_image_19 : decode prog_1_method_46_code 19 = .ok (.invokespecial 301, 3) := by decide +kernel
theorem d_X8_image_22 : decode prog_1_method_46_code 22 = .ok (.astore_n 2, 1) := by decide +kernel
theorem d_X8_image_23 : decode prog_1_method_46_code 23 = .ok (.aload_n 0, 1) := by decide +kernel
theorem d_X8_image_24 : decode prog_1_method_46_code 24 = .ok (.getfield 41, 3) := by decide +kernel
theorem d_X8_image_27 : decode prog_1_method_46_code 27 = .ok (.iload_n 1, 1) := by decide +kernel
theorem d_X8_image_28 : decode prog_1_method_46_code 28 = .ok (.aload_n 2, 1) := by decide +kernel
theorem d_X8_image_29 : decode prog_1_method_46_code 29 = .ok (.aastore, 1) := by decide +kernel
theorem d_X8_image_30 : decode prog_1_method_46_code 30 = .ok (.aload_n 2, 1) := by decide +kernel
theorem k_1471 : Cond.fieldLink "PinchedBill" 302 "PinchedBill$Image" "house" "LPinchedBill$House;" ∈ gd_tbl := gd_in 1471 (by decide +kernel) (by decide +kernel)
theorem d_X8_image_31 : decode prog_1_method_46_code 31 = .ok (.getfield 302, 3) := by decide +kernel
theorem d_X8_image_34 : decode prog_1_method_46_code 34 = .ok (.aload_n 0, 1) := by decide +kernel
theorem d_X8_image_35 : decode prog_1_method_46_code 35 = .ok (.getfield 19, 3) := by decide +kernel
theorem k_967 : Cond.code ⟨"PinchedBill$House", "copyFrom", "(LPinchedBill$House;)V"⟩ prog_2_method_3_code 2 none ∈ gd_tbl := gd_in 967 (by decide +kernel) (by decide +kernel)
theorem k_964 : Cond.methodLink "PinchedBill" 65 ⟨"PinchedBill$House", "copyFrom", "(LPinchedBill$House;)V"⟩ ∈ gd_tbl := gd_in 964 (by decide +kernel) (by decide +kernel)
theorem k_965 : Cond.instanceMethod ⟨"PinchedBill$House", "copyFrom", "(LPinchedBill$House;)V"⟩ ∈ gd_tbl := gd_in 965 (by decide +kernel) (by decide +kernel)
theorem k_966 : Cond.selects "PinchedBill$House" ⟨"PinchedBill$House", "copyFrom", "(LPinchedBill$House;)V"⟩ ⟨"PinchedBill$House", "copyFrom", "(LPinchedBill$House;)V"⟩ ∈ gd_tbl := gd_in 966 (by decide +kernel) (by decide +kernel)
theorem kV_PinchedBill_65 : kV "PinchedBill" 65 ⟨"PinchedBill$House", "copyFrom", "(LPinchedBill$House;)V"⟩ prog_2_method_3_code 2 none 1 := ⟨k_964, k_965, k_966, k_119, k_967, by decide, by decide, by decide +kernel⟩
theorem d_X8_image_38 : decode prog_1_method_46_code 38 = .ok (.invokevirtual 65, 3) := by decide +kernel
theorem d_X8_image_41 : decode prog_1_method_46_code 41 = .ok (.aload_n 2, 1) := by decide +kernel
theorem k_1473 : Cond.fieldLink "PinchedBill" 303 "PinchedBill$Image" "standing" "LPinchedBill$Standing;" ∈ gd_tbl := gd_in 1473 (by decide +kernel) (by decide +kernel)
theorem d_X8_image_42 : decode prog_1_method_46_code 42 = .ok (.getfield 303, 3) := by decide +kernel
theorem d_X8_image_45 : decode prog_1_method_46_code 45 = .ok (.aload_n 0, 1) := by decide +kernel
theorem d_X8_image_46 : decode prog_1_method_46_code 46 = .ok (.getfield 26, 3) := by decide +kernel
theorem k_1098 : Cond.code ⟨"PinchedBill$Standing", "copyFrom", "(LPinchedBill$Standing;)V"⟩ prog_7_method_6_code 2 none ∈ gd_tbl := gd_in 1098 (by decide +kernel) (by decide +kernel)
theorem k_1095 : Cond.methodLink "PinchedBill" 149 ⟨"PinchedBill$Standing", "copyFrom", "(LPinchedBill$Standing;)V"⟩ ∈ gd_tbl := gd_in 1095 (by decide +kernel) (by decide +kernel)
theorem k_1096 : Cond.instanceMethod ⟨"PinchedBill$Standing", "copyFrom", "(LPinchedBill$Standing;)V"⟩ ∈ gd_tbl := gd_in 1096 (by decide +kernel) (by decide +kernel)
theorem k_1097 : Cond.selects "PinchedBill$Standing" ⟨"PinchedBill$Standing", "copyFrom", "(LPinchedBill$Standing;)V"⟩ ⟨"PinchedBill$Standing", "copyFrom", "(LPinchedBill$Standing;)V"⟩ ∈ gd_tbl := gd_in 1097 (by decide +kernel) (by decide +kernel)
theorem kV_PinchedBill_149 : kV "PinchedBill" 149 ⟨"PinchedBill$Standing", "copyFrom", "(LPinchedBill$Standing;)V"⟩ prog_7_method_6_code 2 none 1 := ⟨k_1095, k_1096, k_1097, k_120, k_1098, by decide, by decide, by decide +kernel⟩
theorem d_X8_image_49 : decode prog_1_method_46_code 49 = .ok (.invokevirtual 149, 3) := by decide +kernel
theorem d_X8_image_52 : decode prog_1_method_46_code 52 = .ok (.return_, 1) := by decide +kernel
theorem d_X6_init_0 : decode prog_8_method_1_code 0 = .ok (.aload_n 0, 1) := by decide +kernel
theorem k_1385 : Cond.methodLink "PinchedBill$Tray" 3 ⟨"java/lang/Object", "<init>", "()V"⟩ ∈ gd_tbl := gd_in 1385 (by decide +kernel) (by decide +kernel)
theorem d_X6_init_1 : decode prog_8_method_1_code 1 = .ok (.invokespecial 3, 3) := by decide +kernel
theorem d_X6_init_4 : decode prog_8_method_1_code 4 = .ok (.aload_n 0, 1) := by decide +kernel
theorem d_X6_init_5 : decode prog_8_method_1_code 5 = .ok (.bipush 30, 2) := by decide +kernel
theorem k_1398 : Cond.arrayClass .long ∈ gd_tbl := gd_in 1398 (by decide +kernel) (by decide +kernel)
theorem d_X6_init_7 : decode prog_8_method_1_code 7 = .ok (.newarray .long, 2) := by decide +kernel
theorem k_1390 : Cond.fieldLink "PinchedBill$Tray" 9 "PinchedBill$Tray" "row" "[J" ∈ gd_tbl := gd_in 1390 (by decide +kernel) (by decide +kernel)
theorem d_X6_init_9 : decode prog_8_method_1_code 9 = .ok (.putfield 9, 3) := by decide +kernel
theorem d_X6_init_12 : decode prog_8_method_1_code 12 = .ok (.return_, 1) := by decide +kernel
theorem d_X6_layOut_0 : decode prog_8_method_2_code 0 = .ok (.aload_n 0, 1) := by decide +kernel
theorem d_X6_layOut_1 : decode prog_8_method_2_code 1 = .ok (.iload_n 1, 1) := by decide +kernel
theorem k_1389 : Cond.fieldLink "PinchedBill$Tray" 15 "PinchedBill$Tray" "sort" "I" ∈ gd_tbl := gd_in 1389 (by decide +kernel) (by decide +kernel)
theorem d_X6_layOut_2 : decode prog_8_method_2_code 2 = .ok (.putfield 15, 3) := by decide +kernel
theorem d_X6_layOut_5 : decode prog_8_method_2_code 5 = .ok (.aload_n 0, 1) := by decide +kernel
theorem d_X6_layOut_6 : decode prog_8_method_2_code 6 = .ok (.iload_n 2, 1) := by decide +kernel
theorem k_1386 : Cond.fieldLink "PinchedBill$Tray" 19 "PinchedBill$Tray" "many" "I" ∈ gd_tbl := gd_in 1386 (by decide +kernel) (by decide +kernel)
theorem d_X6_layOut_7 : decode prog_8_method_2_code 7 = .ok (.putfield 19, 3) := by decide +kernel
theorem d_X6_layOut_10 : decode prog_8_method_2_code 10 = .ok (.aload_n 0, 1) := by decide +kernel
theorem d_X6_layOut_11 : decode prog_8_method_2_code 11 = .ok (.getfield 9, 3) := by decide +kernel
theorem d_X6_layOut_14 : decode prog_8_method_2_code 14 = .ok (.lconst 0, 1) := by decide +kernel
theorem k_1405 : Cond.code ⟨"java/util/Arrays", "fill", "([JJ)V"⟩ prog_30_method_101_code 5 none ∈ gd_tbl := gd_in 1405 (by decide +kernel) (by decide +kernel)
theorem k_1403 : Cond.methodLink "PinchedBill$Tray" 22 ⟨"java/util/Arrays", "fill", "([JJ)V"⟩ ∈ gd_tbl := gd_in 1403 (by decide +kernel) (by decide +kernel)
theorem k_1404 : Cond.static ⟨"java/util/Arrays", "fill", "([JJ)V"⟩ ∈ gd_tbl := gd_in 1404 (by decide +kernel) (by decide +kernel)
theorem kS_PinchedBill_Tray_22 : kS "PinchedBill$Tray" 22 ⟨"java/util/Arrays", "fill", "([JJ)V"⟩ prog_30_method_101_code 5 none 2 := ⟨k_1403, k_1404, k_128, k_1405, by decide, by decide, by decide +kernel⟩
theorem d_X6_layOut_15 : decode prog_8_method_2_code 15 = .ok (.invokestatic 22, 3) := by decide +kernel
theorem d_X6_layOut_18 : decode prog_8_method_2_code 18 = .ok (.return_, 1) := by decide +kernel
theorem d_X8_tray_0 : decode prog_1_method_43_code 0 = .ok (.iload_n 1, 1) := by decide +kernel
theorem d_X8_tray_1 : decode prog_1_method_43_code 1 = .ok (.invokestatic 276, 3) := by decide +kernel
theorem d_X8_tray_4 : decode prog_1_method_43_code 4 = .ok (.iload_n 2, 1) := by decide +kernel
theorem d_X8_tray_5 : decode prog_1_method_43_code 5 = .ok (.iconst 0, 1) := by decide +kernel
theorem d_X8_tray_6 : decode prog_1_method_43_code 6 = .ok (.iconst 3, 1) := by decide +kernel
theorem d_X8_tray_7 : decode prog_1_method_43_code 7 = .ok (.invokestatic 53, 3) := by decide +kernel
theorem d_X8_tray_10 : decode prog_1_method_43_code 10 = .ok (.iload_n 3, 1) := by decide +kernel
theorem d_X8_tray_11 : decode prog_1_method_43_code 11 = .ok (.iconst 0, 1) := by decide +kernel
theorem d_X8_tray_12 : decode prog_1_method_43_code 12 = .ok (.bipush 30, 2) := by decide +kernel
theorem d_X8_tray_14 : decode prog_1_method_43_code 14 = .ok (.invokestatic 53, 3) := by decide +kernel
theorem d_X8_tray_17 : decode prog_1_method_43_code 17 = .ok (.aload_n 0, 1) := by decide +kernel
theorem d_X8_tray_18 : decode prog_1_method_43_code 18 = .ok (.getfield 35, 3) := by decide +kernel
theorem d_X8_tray_21 : decode prog_1_method_43_code 21 = .ok (.iload_n 1, 1) := by decide +kernel
theorem d_X8_tray_22 : decode prog_1_method_43_code 22 = .ok (.aaload, 1) := by decide +kernel
theorem d_X8_tray_23 : decode prog_1_method_43_code 23 = .ok (.astore 4, 2) := by decide +kernel
theorem d_X8_tray_25 : decode prog_1_method_43_code 25 = .ok (.aload 4, 2) := by decide +kernel
theorem d_X8_tray_27 : decode prog_1_method_43_code 27 = .ok (.ifnonnull 20, 3) := by decide +kernel
theorem k_1381 : Cond.instantiable "PinchedBill$Tray" 3 ∈ gd_tbl := gd_in 1381 (by decide +kernel) (by decide +kernel)
theorem k_140 : Cond.initialized "PinchedBill$Tray" ∈ gd_tbl := gd_in 140 (by decide +kernel) (by decide +kernel)
theorem d_X8_tray_30 : decode prog_1_method_43_code 30 = .ok (.new 33, 3) := by decide +kernel
theorem d_X8_tray_33 : decode prog_1_method_43_code 33 = .ok (.dup, 1) := by decide +kernel
theorem k_1384 : Cond.code ⟨"PinchedBill$Tray", "<init>", "()V"⟩ prog_8_method_1_code 1 none ∈ gd_tbl := gd_in 1384 (by decide +kernel) (by decide +kernel)
theorem k_1383 : Cond.instanceMethod ⟨"PinchedBill$Tray", "<init>", "()V"⟩ ∈ gd_tbl := gd_in 1383 (by decide +kernel) (by decide +kernel)
theorem kIN_PinchedBill_279 : kIN "PinchedBill" 279 "PinchedBill" ⟨"PinchedBill$Tray", "<init>", "()V"⟩ prog_8_method_1_code 1 0 := ⟨by decide +kernel, k_1383, k_140, k_1384, rfl, by decide, by decide, by decide +kernel⟩
theorem d_X8_tray_34 : decode prog_1_method_43_code 34 = .ok (.invokespecial 279, 3) := by decide +kernel
theorem d_X8_tray_37 : decode prog_1_method_43_code 37 = .ok (.astore 4, 2) := by decide +kernel
theorem d_X8_tray_39 : decode prog_1_method_43_code 39 = .ok (.aload_n 0, 1) := by decide +kernel
theorem d_X8_tray_40 : decode prog_1_method_43_code 40 = .ok (.getfield 35, 3) := by decide +kernel
theorem d_X8_tray_43 : decode prog_1_method_43_code 43 = .ok (.iload_n 1, 1) := by decide +kernel
theorem d_X8_tray_44 : decode prog_1_method_43_code 44 = .ok (.aload 4, 2) := by decide +kernel
theorem d_X8_tray_46 : decode prog_1_method_43_code 46 = .ok (.aastore, 1) := by decide +kernel
theorem d_X8_tray_47 : decode prog_1_method_43_code 47 = .ok (.aload 4, 2) := by decide +kernel
theorem d_X8_tray_49 : decode prog_1_method_43_code 49 = .ok (.iload_n 2, 1) := by decide +kernel
theorem d_X8_tray_50 : decode prog_1_method_43_code 50 = .ok (.iload_n 3, 1) := by decide +kernel
theorem k_1402 : Cond.code ⟨"PinchedBill$Tray", "layOut", "(II)V"⟩ prog_8_method_2_code 3 none ∈ gd_tbl := gd_in 1402 (by decide +kernel) (by decide +kernel)
theorem k_1399 : Cond.methodLink "PinchedBill" 280 ⟨"PinchedBill$Tray", "layOut", "(II)V"⟩ ∈ gd_tbl := gd_in 1399 (by decide +kernel) (by decide +kernel)
theorem k_1400 : Cond.instanceMethod ⟨"PinchedBill$Tray", "layOut", "(II)V"⟩ ∈ gd_tbl := gd_in 1400 (by decide +kernel) (by decide +kernel)
theorem k_1401 : Cond.selects "PinchedBill$Tray" ⟨"PinchedBill$Tray", "layOut", "(II)V"⟩ ⟨"PinchedBill$Tray", "layOut", "(II)V"⟩ ∈ gd_tbl := gd_in 1401 (by decide +kernel) (by decide +kernel)
theorem kV_PinchedBill_280 : kV "PinchedBill" 280 ⟨"PinchedBill$Tray", "layOut", "(II)V"⟩ prog_8_method_2_code 3 none 2 := ⟨k_1399, k_1400, k_1401, k_140, k_1402, by decide, by decide, by decide +kernel⟩
theorem d_X8_tray_51 : decode prog_1_method_43_code 51 = .ok (.invokevirtual 280, 3) := by decide +kernel
theorem d_X8_tray_54 : decode prog_1_method_43_code 54 = .ok (.return_, 1) := by decide +kernel
theorem d_X8_count_0 : decode prog_1_method_48_code 0 = .ok (.iload_n 1, 1) := by decide +kernel
theorem d_X8_count_1 : decode prog_1_method_48_code 1 = .ok (.tableswitch 114 0 7 #[47, 55, 63, 71, 79, 90, 98, 106], 47) := by decide +kernel
theorem d_X8_count_48 : decode prog_1_method_48_code 48 = .ok (.aload_n 0, 1) := by decide +kernel
theorem d_X8_count_49 : decode prog_1_method_48_code 49 = .ok (.getfield 19, 3) := by decide +kernel
theorem k_164 : Cond.fieldLink "PinchedBill" 75 "PinchedBill$House" "textLines" "I" ∈ gd_tbl := gd_in 164 (by decide +kernel) (by decide +kernel)
theorem d_X8_count_52 : decode prog_1_method_48_code 52 = .ok (.getfield 75, 3) := by decide +kernel
theorem d_X8_count_55 : decode prog_1_method_48_code 55 = .ok (.ireturn, 1) := by decide +kernel
theorem d_X8_count_56 : decode prog_1_method_48_code 56 = .ok (.aload_n 0, 1) := by decide +kernel
theorem d_X8_count_57 : decode prog_1_method_48_code 57 = .ok (.getfield 19, 3) := by decide +kernel
theorem k_169 : Cond.fieldLink "PinchedBill" 311 "PinchedBill$House" "lines" "I" ∈ gd_tbl := gd_in 169 (by decide +kernel) (by decide +kernel)
theorem d_X8_count_60 : decode prog_1_method_48_code 60 = .ok (.getfield 311, 3) := by decide +kernel
theorem d_X8_count_63 : decode prog_1_method_48_code 63 = .ok (.ireturn, 1) := by decide +kernel
theorem d_X8_count_64 : decode prog_1_method_48_code 64 = .ok (.aload_n 0, 1) := by decide +kernel
theorem d_X8_count_65 : decode prog_1_method_48_code 65 = .ok (.getfield 19, 3) := by decide +kernel
theorem d_X8_count_68 : decode prog_1_method_48_code 68 = .ok (.getfield 224, 3) := by decide +kernel
theorem d_X8_count_71 : decode prog_1_method_48_code 71 = .ok (.ireturn, 1) := by decide +kernel
theorem d_X8_count_72 : decode prog_1_method_48_code 72 = .ok (.aload_n 0, 1) := by decide +kernel
theorem d_X8_count_73 : decode prog_1_method_48_code 73 = .ok (.getfield 26, 3) := by decide +kernel
theorem d_X8_count_76 : decode prog_1_method_48_code 76 = .ok (.getfield 92, 3) := by decide +kernel
theorem d_X8_count_79 : decode prog_1_method_48_code 79 = .ok (.ireturn, 1) := by decide +kernel
theorem d_X8_count_80 : decode prog_1_method_48_code 80 = .ok (.aload_n 0, 1) := by decide +kernel
theorem d_X8_count_81 : decode prog_1_method_48_code 81 = .ok (.getfield 26, 3) := by decide +kernel
theorem d_X8_count_84 : decode prog_1_method_48_code 84 = .ok (.getfield 92, 3) := by decide +kernel
theorem d_X8_count_87 : decode prog_1_method_48_code 87 = .ok (.invokestatic 216, 3) := by decide +kernel
theorem d_X8_count_90 : decode prog_1_method_48_code 90 = .ok (.ireturn, 1) := by decide +kernel
theorem d_X8_count_91 : decode prog_1_method_48_code 91 = .ok (.aload_n 0, 1) := by decide +kernel
theorem d_X8_count_92 : decode prog_1_method_48_code 92 = .ok (.getfield 19, 3) := by decide +kernel
theorem k_652 : Cond.methodLink "PinchedBill" 314 ⟨"PinchedBill$House", "bills", "()I"⟩ ∈ gd_tbl := gd_in 652 (by decide +kernel) (by decide +kernel)
theorem kV_PinchedBill_314 : kV "PinchedBill" 314 ⟨"PinchedBill$House", "bills", "()I"⟩ prog_2_method_5_code 1 (some .int) 0 := ⟨k_652, k_598, k_599, k_119, k_600, by decide, by decide, by decide +kernel⟩
theorem d_X8_count_95 : decode prog_1_method_48_code 95 = .ok (.invokevirtual 314, 3) := by decide +kernel
theorem d_X8_count_98 : decode prog_1_method_48_code 98 = .ok (.ireturn, 1) := by decide +kernel
theorem d_X8_count_99 : decode prog_1_method_48_code 99 = .ok (.aload_n 0, 1) := by decide +kernel
theorem d_X8_count_100 : decode prog_1_method_48_code 100 = .ok (.getfield 26, 3) := by decide +kernel
theorem d_X8_count_103 : decode prog_1_method_48_code 103 = .ok (.getfield 139, 3) := by decide +kernel
theorem d_X8_count_106 : decode prog_1_method_48_code 106 = .ok (.ireturn, 1) := by decide +kernel
theorem d_X8_count_107 : decode prog_1_method_48_code 107 = .ok (.aload_n 0, 1) := by decide +kernel
theorem d_X8_count_108 : decode prog_1_method_48_code 108 = .ok (.getfield 10, 3) := by decide +kernel
theorem d_X8_count_111 : decode prog_1_method_48_code 111 = .ok (.getfield 45, 3) := by decide +kernel
theorem d_X8_count_114 : decode prog_1_method_48_code 114 = .ok (.ireturn, 1) := by decide +kernel
theorem d_X8_count_115 : decode prog_1_method_48_code 115 = .ok (.iconst (-1), 1) := by decide +kernel
theorem d_X8_count_116 : decode prog_1_method_48_code 116 = .ok (.ireturn, 1) := by decide +kernel
theorem d_X8_house_0 : decode prog_1_method_3_code 0 = .ok (.iload_n 1, 1) := by decide +kernel
theorem d_X8_house_1 : decode prog_1_method_3_code 1 = .ok (.iconst 0, 1) := by decide +kernel
theorem d_X8_house_2 : decode prog_1_method_3_code 2 = .ok (.aload_n 0, 1) := by decide +kernel
theorem d_X8_house_3 : decode prog_1_method_3_code 3 = .ok (.getfield 10, 3) := by decide +kernel
theorem d_X8_house_6 : decode prog_1_method_3_code 6 = .ok (.getfield 45, 3) := by decide +kernel
theorem d_X8_house_9 : decode prog_1_method_3_code 9 = .ok (.invokestatic 53, 3) := by decide +kernel
theorem d_X8_house_12 : decode prog_1_method_3_code 12 = .ok (.aload_n 0, 1) := by decide +kernel
theorem d_X8_house_13 : decode prog_1_method_3_code 13 = .ok (.getfield 10, 3) := by decide +kernel
theorem d_X8_house_16 : decode prog_1_method_3_code 16 = .ok (.iload_n 1, 1) := by decide +kernel
theorem d_X3_readsHouse_0 : decode prog_5_method_3_code 0 = .ok (.aload_n 0, 1) := by decide +kernel
theorem d_X3_readsHouse_1 : decode prog_5_method_3_code 1 = .ok (.iconst 0, 1) := by decide +kernel
theorem d_X3_readsHouse_2 : decode prog_5_method_3_code 2 = .ok (.putfield 26, 3) := by decide +kernel
theorem d_X3_readsHouse_5 : decode prog_5_method_3_code 5 = .ok (.aload_n 0, 1) := by decide +kernel
theorem d_X3_readsHouse_6 : decode prog_5_method_3_code 6 = .ok (.iconst 0, 1) := by decide +kernel
theorem k_228 : Cond.fieldLink "PinchedBill$Reader" 29 "PinchedBill$Reader" "fault" "I" ∈ gd_tbl := gd_in 228 (by decide +kernel) (by decide +kernel)
theorem d_X3_readsHouse_7 : decode prog_5_method_3_code 7 = .ok (.putfield 29, 3) := by decide +kernel
theorem d_X3_readsHouse_10 : decode prog_5_method_3_code 10 = .ok (.aload_n 0, 1) := by decide +kernel
theorem d_X3_readsHouse_11 : decode prog_5_method_3_code 11 = .ok (.iconst (-1), 1) := by decide +kernel
theorem d_X3_readsHouse_12 : decode prog_5_method_3_code 12 = .ok (.putfield 9, 3) := by decide +kernel
theorem d_X3_readsHouse_15 : decode prog_5_method_3_code 15 = .ok (.aload_n 0, 1) := by decide +kernel
theorem d_X3_readsHouse_16 : decode prog_5_method_3_code 16 = .ok (.iload_n 1, 1) := by decide +kernel
theorem d_X3_readsHouse_17 : decode prog_5_method_3_code 17 = .ok (.sipush 900, 3) := by decide +kernel
theorem k_736 : Cond.methodLink "PinchedBill$Reader" 32 ⟨"java/lang/Math", "min", "(II)I"⟩ ∈ gd_tbl := gd_in 736 (by decide +kernel) (by decide +kernel)
theorem k_566 : Cond.static ⟨"java/lang/Math", "min", "(II)I"⟩ ∈ gd_tbl := gd_in 566 (by decide +kernel) (by decide +kernel)
theorem k_567 : Cond.code ⟨"java/lang/Math", "min", "(II)I"⟩ prog_21_method_69_code 2 (some .int) ∈ gd_tbl := gd_in 567 (by decide +kernel) (by decide +kernel)
theorem d_X3_readsHouse_20 : decode prog_5_method_3_code 20 = .ok (.invokestatic 32, 3) := by decide +kernel
theorem k_235 : Cond.fieldLink "PinchedBill$Reader" 38 "PinchedBill$Reader" "length" "I" ∈ gd_tbl := gd_in 235 (by decide +kernel) (by decide +kernel)
theorem d_X3_readsHouse_23 : decode prog_5_method_3_code 23 = .ok (.putfield 38, 3) := by decide +kernel
theorem d_X3_readsHouse_26 : decode prog_5_method_3_code 26 = .ok (.aload_n 0, 1) := by decide +kernel
theorem d_X3_readsHouse_27 : decode prog_5_method_3_code 27 = .ok (.iconst 0, 1) := by decide +kernel
theorem k_238 : Cond.fieldLink "PinchedBill$Reader" 41 "PinchedBill$Reader" "end" "I" ∈ gd_tbl := gd_in 238 (by decide +kernel) (by decide +kernel)
theorem d_X3_readsHouse_28 : decode prog_5_method_3_code 28 = .ok (.putfield 41, 3) := by decide +kernel
theorem d_X3_readsHouse_31 : decode prog_5_method_3_code 31 = .ok (.aload_n 0, 1) := by decide +kernel
theorem d_X3_readsHouse_32 : decode prog_5_method_3_code 32 = .ok (.getfield 18, 3) := by decide +kernel
theorem d_X0_clear_0 : decode prog_2_method_2_code 0 = .ok (.aload_n 0, 1) := by decide +kernel
theorem d_X0_clear_1 : decode prog_2_method_2_code 1 = .ok (.iconst 0, 1) := by decide +kernel
theorem d_X0_clear_2 : decode prog_2_method_2_code 2 = .ok (.putfield 25, 3) := by decide +kernel
theorem d_X0_clear_5 : decode prog_2_method_2_code 5 = .ok (.aload_n 0, 1) := by decide +kernel
theorem d_X0_clear_6 : decode prog_2_method_2_code 6 = .ok (.iconst 1, 1) := by decide +kernel
theorem d_X0_clear_7 : decode prog_2_method_2_code 7 = .ok (.putfield 21, 3) := by decide +kernel
theorem d_X0_clear_10 : decode prog_2_method_2_code 10 = .ok (.aload_n 0, 1) := by decide +kernel
theorem d_X0_clear_11 : decode prog_2_method_2_code 11 = .ok (.iconst 0, 1) := by decide +kernel
theorem d_X0_clear_12 : decode prog_2_method_2_code 12 = .ok (.putfield 28, 3) := by decide +kernel
theorem d_X0_clear_15 : decode prog_2_method_2_code 15 = .ok (.aload_n 0, 1) := by decide +kernel
theorem d_X0_clear_16 : decode prog_2_method_2_code 16 = .ok (.iconst 0, 1) := by decide +kernel
theorem d_X0_clear_17 : decode prog_2_method_2_code 17 = .ok (.putfield 31, 3) := by decide +kernel
theorem d_X0_clear_20 : decode prog_2_method_2_code 20 = .ok (.aload_n 0, 1) := by decide +kernel
theorem d_X0_clear_21 : decode prog_2_method_2_code 21 = .ok (.iconst 0, 1) := by decide +kernel
theorem d_X0_clear_22 : decode prog_2_method_2_code 22 = .ok (.putfield 34, 3) := by decide +kernel
theorem d_X0_clear_25 : decode prog_2_method_2_code 25 = .ok (.aload_n 0, 1) := by decide +kernel
theorem d_X0_clear_26 : decode prog_2_method_2_code 26 = .ok (.iconst 0, 1) := by decide +kernel
theorem d_X0_clear_27 : decode prog_2_method_2_code 27 = .ok (.putfield 37, 3) := by decide +kernel
theorem d_X0_clear_30 : decode prog_2_method_2_code 30 = .ok (.aload_n 0, 1) := by decide +kernel
theorem d_X0_clear_31 : decode prog_2_method_2_code 31 = .ok (.iconst 0, 1) := by decide +kernel
theorem d_X0_clear_32 : decode prog_2_method_2_code 32 = .ok (.putfield 40, 3) := by decide +kernel
theorem d_X0_clear_35 : decode prog_2_method_2_code 35 = .ok (.aload_n 0, 1) := by decide +kernel
theorem d_X0_clear_36 : decode prog_2_method_2_code 36 = .ok (.iconst 0, 1) := by decide +kernel
theorem d_X0_clear_37 : decode prog_2_method_2_code 37 = .ok (.putfield 43, 3) := by decide +kernel
theorem d_X0_clear_40 : decode prog_2_method_2_code 40 = .ok (.aload_n 0, 1) := by decide +kernel
theorem d_X0_clear_41 : decode prog_2_method_2_code 41 = .ok (.iconst 0, 1) := by decide +kernel
theorem d_X0_clear_42 : decode prog_2_method_2_code 42 = .ok (.putfield 46, 3) := by decide +kernel
theorem d_X0_clear_45 : decode prog_2_method_2_code 45 = .ok (.aload_n 0, 1) := by decide +kernel
theorem d_X0_clear_46 : decode prog_2_method_2_code 46 = .ok (.iconst 0, 1) := by decide +kernel
theorem d_X0_clear_47 : decode prog_2_method_2_code 47 = .ok (.putfield 49, 3) := by decide +kernel
theorem d_X0_clear_50 : decode prog_2_method_2_code 50 = .ok (.aload_n 0, 1) := by decide +kernel
theorem d_X0_clear_51 : decode prog_2_method_2_code 51 = .ok (.getfield 9, 3) := by decide +kernel
theorem d_X0_clear_54 : decode prog_2_method_2_code 54 = .ok (.iconst 0, 1) := by decide +kernel
theorem k_741 : Cond.methodLink "PinchedBill$House" 52 ⟨"java/util/Arrays", "fill", "([II)V"⟩ ∈ gd_tbl := gd_in 741 (by decide +kernel) (by decide +kernel)
theorem kS_PinchedBill_House_52 : kS "PinchedBill$House" 52 ⟨"java/util/Arrays", "fill", "([II)V"⟩ prog_30_method_103_code 4 none 2 := ⟨k_741, k_636, k_128, k_637, by decide, by decide, by decide +kernel⟩
theorem d_X0_clear_55 : decode prog_2_method_2_code 55 = .ok (.invokestatic 52, 3) := by decide +kernel
theorem d_X0_clear_58 : decode prog_2_method_2_code 58 = .ok (.aload_n 0, 1) := by decide +kernel
theorem d_X0_clear_59 : decode prog_2_method_2_code 59 = .ok (.getfield 15, 3) := by decide +kernel
theorem d_X0_clear_62 : decode prog_2_method_2_code 62 = .ok (.iconst 0, 1) := by decide +kernel
theorem d_X0_clear_63 : decode prog_2_method_2_code 63 = .ok (.invokestatic 52, 3) := by decide +kernel
theorem d_X0_clear_66 : decode prog_2_method_2_code 66 = .ok (.return_, 1) := by decide +kernel
theorem k_740 : Cond.code ⟨"PinchedBill$House", "clear", "()V"⟩ prog_2_method_2_code 1 none ∈ gd_tbl := gd_in 740 (by decide +kernel) (by decide +kernel)
theorem k_737 : Cond.methodLink "PinchedBill$Reader" 44 ⟨"PinchedBill$House", "clear", "()V"⟩ ∈ gd_tbl := gd_in 737 (by decide +kernel) (by decide +kernel)
theorem k_738 : Cond.instanceMethod ⟨"PinchedBill$House", "clear", "()V"⟩ ∈ gd_tbl := gd_in 738 (by decide +kernel) (by decide +kernel)
theorem k_739 : Cond.selects "PinchedBill$House" ⟨"PinchedBill$House", "clear", "()V"⟩ ⟨"PinchedBill$House", "clear", "()V"⟩ ∈ gd_tbl := gd_in 739 (by decide +kernel) (by decide +kernel)
theorem kV_PinchedBill_Reader_44 : kV "PinchedBill$Reader" 44 ⟨"PinchedBill$House", "clear", "()V"⟩ prog_2_method_2_code 1 none 0 := ⟨k_737, k_738, k_739, k_119, k_740, by decide, by decide, by decide +kernel⟩
theorem d_X3_readsHouse_35 : decode prog_5_method_3_code 35 = .ok (.invokevirtual 44, 3) := by decide +kernel
theorem d_X3_readsHouse_38 : decode prog_5_method_3_code 38 = .ok (.aload_n 0, 1) := by decide +kernel
theorem d_X3_advance_0 : decode prog_5_method_23_code 0 = .ok (.aload_n 0, 1) := by decide +kernel
theorem d_X3_advance_1 : decode prog_5_method_23_code 1 = .ok (.getfield 29, 3) := by decide +kernel
theorem d_X3_advance_4 : decode prog_5_method_23_code 4 = .ok (.ifCond .eq 4, 3) := by decide +kernel
theorem d_X3_advance_8 : decode prog_5_method_23_code 8 = .ok (.aload_n 0, 1) := by decide +kernel
theorem d_X3_advance_9 : decode prog_5_method_23_code 9 = .ok (.aload_n 0, 1) := by decide +kernel
theorem d_X3_advance_10 : decode prog_5_method_23_code 10 = .ok (.getfield 41, 3) := by decide +kernel
theorem k_237 : Cond.fieldLink "PinchedBill$Reader" 200 "PinchedBill$Reader" "start" "I" ∈ gd_tbl := gd_in 237 (by decide +kernel) (by decide +kernel)
theorem d_X3_advance_13 : decode prog_5_method_23_code 13 = .ok (.putfield 200, 3) := by decide +kernel
theorem d_X3_advance_16 : decode prog_5_method_23_code 16 = .ok (.aload_n 0, 1) := by decide +kernel
theorem d_X3_advance_17 : decode prog_5_method_23_code 17 = .ok (.getfield 200, 3) := by decide +kernel
theorem d_X3_advance_20 : decode prog_5_method_23_code 20 = .ok (.aload_n 0, 1) := by decide +kernel
theorem d_X3_advance_21 : decode prog_5_method_23_code 21 = .ok (.getfield 38, 3) := by decide +kernel
theorem d_X3_advance_24 : decode prog_5_method_23_code 24 = .ok (.if_icmp .ge 42, 3) := by decide +kernel
theorem d_X3_advance_66 : decode prog_5_method_23_code 66 = .ok (.aload_n 0, 1) := by decide +kernel
theorem d_X3_advance_67 : decode prog_5_method_23_code 67 = .ok (.aload_n 0, 1) := by decide +kernel
theorem d_X3_advance_68 : decode prog_5_method_23_code 68 = .ok (.getfield 200, 3) := by decide +kernel
theorem d_X3_advance_71 : decode prog_5_method_23_code 71 = .ok (.putfield 41, 3) := by decide +kernel
theorem d_X3_advance_74 : decode prog_5_method_23_code 74 = .ok (.aload_n 0, 1) := by decide +kernel
theorem d_X3_advance_75 : decode prog_5_method_23_code 75 = .ok (.aload_n 0, 1) := by decide +kernel
theorem d_X3_advance_76 : decode prog_5_method_23_code 76 = .ok (.getfield 200, 3) := by decide +kernel
theorem d_X3_byteAt_0 : decode prog_5_method_22_code 0 = .ok (.iload_n 1, 1) := by decide +kernel
theorem d_X3_byteAt_1 : decode prog_5_method_22_code 1 = .ok (.ifCond .lt 31, 3) := by decide +kernel
theorem d_X3_byteAt_4 : decode prog_5_method_22_code 4 = .ok (.iload_n 1, 1) := by decide +kernel
theorem d_X3_byteAt_5 : decode prog_5_method_22_code 5 = .ok (.aload_n 0, 1) := by decide +kernel
theorem d_X3_byteAt_6 : decode prog_5_method_22_code 6 = .ok (.getfield 38, 3) := by decide +kernel
theorem d_X3_byteAt_9 : decode prog_5_method_22_code 9 = .ok (.if_icmp .ge 23, 3) := by decide +kernel
theorem d_X3_byteAt_32 : decode prog_5_method_22_code 32 = .ok (.iconst 0, 1) := by decide +kernel
theorem d_X3_byteAt_33 : decode prog_5_method_22_code 33 = .ok (.ireturn, 1) := by decide +kernel
theorem k_749 : Cond.code ⟨"PinchedBill$Reader", "byteAt", "(I)I"⟩ prog_5_method_22_code 2 (some .int) ∈ gd_tbl := gd_in 749 (by decide +kernel) (by decide +kernel)
theorem k_746 : Cond.methodLink "PinchedBill$Reader" 207 ⟨"PinchedBill$Reader", "byteAt", "(I)I"⟩ ∈ gd_tbl := gd_in 746 (by decide +kernel) (by decide +kernel)
theorem k_748 : Cond.instanceMethod ⟨"PinchedBill$Reader", "byteAt", "(I)I"⟩ ∈ gd_tbl := gd_in 748 (by decide +kernel) (by decide +kernel)
theorem k_14 : Cond.selects "PinchedBill$Reader" ⟨"PinchedBill$Reader", "byteAt", "(I)I"⟩ ⟨"PinchedBill$Reader", "byteAt", "(I)I"⟩ ∈ gd_tbl := gd_in 14 (by decide +kernel) (by decide +kernel)
theorem kV_PinchedBill_Reader_207 : kV "PinchedBill$Reader" 207 ⟨"PinchedBill$Reader", "byteAt", "(I)I"⟩ prog_5_method_22_code 2 (some .int) 1 := ⟨k_746, k_748, k_14, k_118, k_749, by decide, by decide, by decide +kernel⟩
theorem d_X3_advance_79 : decode prog_5_method_23_code 79 = .ok (.invokevirtual 207, 3) := by decide +kernel
theorem d_X3_advance_82 : decode prog_5_method_23_code 82 = .ok (.istore_n 1, 1) := by decide +kernel
theorem d_X3_advance_83 : decode prog_5_method_23_code 83 = .ok (.aload_n 0, 1) := by decide +kernel
theorem d_X3_advance_84 : decode prog_5_method_23_code 84 = .ok (.getfield 200, 3) := by decide +kernel
theorem d_X3_advance_87 : decode prog_5_method_23_code 87 = .ok (.aload_n 0, 1) := by decide +kernel
theorem d_X3_advance_88 : decode prog_5_method_23_code 88 = .ok (.getfield 38, 3) := by decide +kernel
theorem d_X3_advance_91 : decode prog_5_method_23_code 91 = .ok (.if_icmp .lt 11, 3) := by decide +kernel
theorem d_X3_advance_94 : decode prog_5_method_23_code 94 = .ok (.aload_n 0, 1) := by decide +kernel
theorem d_X3_advance_95 : decode prog_5_method_23_code 95 = .ok (.iconst 0, 1) := by decide +kernel
theorem k_236 : Cond.fieldLink "PinchedBill$Reader" 65 "PinchedBill$Reader" "kind" "I" ∈ gd_tbl := gd_in 236 (by decide +kernel) (by decide +kernel)
theorem d_X3_advance_96 : decode prog_5_method_23_code 96 = .ok (.putfield 65, 3) := by decide +kernel
theorem d_X3_advance_99 : decode prog_5_method_23_code 99 = .ok (.goto 180, 3) := by decide +kernel
theorem d_X3_advance_279 : decode prog_5_method_23_code 279 = .ok (.return_, 1) := by decide +kernel
theorem k_745 : Cond.code ⟨"PinchedBill$Reader", "advance", "()V"⟩ prog_5_method_23_code 2 none ∈ gd_tbl := gd_in 745 (by decide +kernel) (by decide +kernel)
theorem k_742 : Cond.methodLink "PinchedBill$Reader" 47 ⟨"PinchedBill$Reader", "advance", "()V"⟩ ∈ gd_tbl := gd_in 742 (by decide +kernel) (by decide +kernel)
theorem k_744 : Cond.instanceMethod ⟨"PinchedBill$Reader", "advance", "()V"⟩ ∈ gd_tbl := gd_in 744 (by decide +kernel) (by decide +kernel)
theorem k_13 : Cond.selects "PinchedBill$Reader" ⟨"PinchedBill$Reader", "advance", "()V"⟩ ⟨"PinchedBill$Reader", "advance", "()V"⟩ ∈ gd_tbl := gd_in 13 (by decide +kernel) (by decide +kernel)
theorem kV_PinchedBill_Reader_47 : kV "PinchedBill$Reader" 47 ⟨"PinchedBill$Reader", "advance", "()V"⟩ prog_5_method_23_code 2 none 0 := ⟨k_742, k_744, k_13, k_118, k_745, by decide, by decide, by decide +kernel⟩
theorem d_X3_readsHouse_39 : decode prog_5_method_3_code 39 = .ok (.invokevirtual 47, 3) := by decide +kernel
theorem d_X3_readsHouse_42 : decode prog_5_method_3_code 42 = .ok (.aload_n 0, 1) := by decide +kernel
theorem d_X3_readsHouse_43 : decode prog_5_method_3_code 43 = .ok (.ldc 50, 2) := by decide +kernel
theorem d_X3_takeWord_0 : decode prog_5_method_16_code 0 = .ok (.aload_n 0, 1) := by decide +kernel
theorem d_X3_takeWord_1 : decode prog_5_method_16_code 1 = .ok (.aload_n 1, 1) := by decide +kernel
theorem d_X3_isWord_0 : decode prog_5_method_20_code 0 = .ok (.aload_n 0, 1) := by decide +kernel
theorem d_X3_isWord_1 : decode prog_5_method_20_code 1 = .ok (.getfield 29, 3) := by decide +kernel
theorem d_X3_isWord_4 : decode prog_5_method_20_code 4 = .ok (.ifCond .ne 27, 3) := by decide +kernel
theorem d_X3_isWord_7 : decode prog_5_method_20_code 7 = .ok (.aload_n 0, 1) := by decide +kernel
theorem d_X3_isWord_8 : decode prog_5_method_20_code 8 = .ok (.getfield 65, 3) := by decide +kernel
theorem d_X3_isWord_11 : decode prog_5_method_20_code 11 = .ok (.iconst 1, 1) := by decide +kernel
theorem d_X3_isWord_12 : decode prog_5_method_20_code 12 = .ok (.if_icmp .ne 19, 3) := by decide +kernel
theorem d_X3_isWord_31 : decode prog_5_method_20_code 31 = .ok (.iconst 0, 1) := by decide +kernel
theorem d_X3_isWord_32 : decode prog_5_method_20_code 32 = .ok (.ireturn, 1) := by decide +kernel
theorem k_847 : Cond.code ⟨"PinchedBill$Reader", "isWord", "(Ljava/lang/String;)Z"⟩ prog_5_method_20_code 3 (some .boolean) ∈ gd_tbl := gd_in 847 (by decide +kernel) (by decide +kernel)
theorem k_844 : Cond.methodLink "PinchedBill$Reader" 70 ⟨"PinchedBill$Reader", "isWord", "(Ljava/lang/String;)Z"⟩ ∈ gd_tbl := gd_in 844 (by decide +kernel) (by decide +kernel)
theorem k_846 : Cond.instanceMethod ⟨"PinchedBill$Reader", "isWord", "(Ljava/lang/String;)Z"⟩ ∈ gd_tbl := gd_in 846 (by decide +kernel) (by decide +kernel)
theorem k_16 : Cond.selects "PinchedBill$Reader" ⟨"PinchedBill$Reader", "isWord", "(Ljava/lang/String;)Z"⟩ ⟨"PinchedBill$Reader", "isWord", "(Ljava/lang/String;)Z"⟩ ∈ gd_tbl := gd_in 16 (by decide +kernel) (by decide +kernel)
theorem kV_PinchedBill_Reader_70 : kV "PinchedBill$Reader" 70 ⟨"PinchedBill$Reader", "isWord", "(Ljava/lang/String;)Z"⟩ prog_5_method_20_code 3 (some .boolean) 1 := ⟨k_844, k_846, k_16, k_118, k_847, by decide, by decide, by decide +kernel⟩
theorem d_X3_takeWord_2 : decode prog_5_method_16_code 2 = .ok (.invokevirtual 70, 3) := by decide +kernel
theorem d_X3_takeWord_5 : decode prog_5_method_16_code 5 = .ok (.ifCond .eq 10, 3) := by decide +kernel
theorem d_X3_takeWord_15 : decode prog_5_method_16_code 15 = .ok (.aload_n 0, 1) := by decide +kernel
theorem d_X3_takeWord_16 : decode prog_5_method_16_code 16 = .ok (.iconst 2, 1) := by decide +kernel
theorem d_X3_refuse_0 : decode prog_5_method_19_code 0 = .ok (.aload_n 0, 1) := by decide +kernel
theorem d_X3_refuse_1 : decode prog_5_method_19_code 1 = .ok (.getfield 29, 3) := by decide +kernel
theorem d_X3_refuse_4 : decode prog_5_method_19_code 4 = .ok (.ifCond .ne 28, 3) := by decide +kernel
theorem d_X3_refuse_7 : decode prog_5_method_19_code 7 = .ok (.aload_n 0, 1) := by decide +kernel
theorem d_X3_refuse_8 : decode prog_5_method_19_code 8 = .ok (.aload_n 0, 1) := by decide +kernel
theorem d_X3_refuse_9 : decode prog_5_method_19_code 9 = .ok (.getfield 65, 3) := by decide +kernel
theorem d_X3_refuse_12 : decode prog_5_method_19_code 12 = .ok (.iconst 4, 1) := by decide +kernel
theorem d_X3_refuse_13 : decode prog_5_method_19_code 13 = .ok (.if_icmp .ne 7, 3) := by decide +kernel
theorem d_X3_refuse_20 : decode prog_5_method_19_code 20 = .ok (.iload_n 1, 1) := by decide +kernel
theorem d_X3_refuse_21 : decode prog_5_method_19_code 21 = .ok (.putfield 29, 3) := by decide +kernel
theorem d_X3_refuse_24 : decode prog_5_method_19_code 24 = .ok (.aload_n 0, 1) := by decide +kernel
theorem d_X3_refuse_25 : decode prog_5_method_19_code 25 = .ok (.aload_n 0, 1) := by decide +kernel
theorem d_X3_refuse_26 : decode prog_5_method_19_code 26 = .ok (.getfield 200, 3) := by decide +kernel
theorem d_X3_refuse_29 : decode prog_5_method_19_code 29 = .ok (.putfield 9, 3) := by decide +kernel
theorem d_X3_refuse_32 : decode prog_5_method_19_code 32 = .ok (.return_, 1) := by decide +kernel
theorem k_872 : Cond.code ⟨"PinchedBill$Reader", "refuse", "(I)V"⟩ prog_5_method_19_code 2 none ∈ gd_tbl := gd_in 872 (by decide +kernel) (by decide +kernel)
theorem k_869 : Cond.methodLink "PinchedBill$Reader" 95 ⟨"PinchedBill$Reader", "refuse", "(I)V"⟩ ∈ gd_tbl := gd_in 869 (by decide +kernel) (by decide +kernel)
theorem k_871 : Cond.instanceMethod ⟨"PinchedBill$Reader", "refuse", "(I)V"⟩ ∈ gd_tbl := gd_in 871 (by decide +kernel) (by decide +kernel)
theorem k_17 : Cond.selects "PinchedBill$Reader" ⟨"PinchedBill$Reader", "refuse", "(I)V"⟩ ⟨"PinchedBill$Reader", "refuse", "(I)V"⟩ ∈ gd_tbl := gd_in 17 (by decide +kernel) (by decide +kernel)
theorem kV_PinchedBill_Reader_95 : kV "PinchedBill$Reader" 95 ⟨"PinchedBill$Reader", "refuse", "(I)V"⟩ prog_5_method_19_code 2 none 1 := ⟨k_869, k_871, k_17, k_118, k_872, by decide, by decide, by decide +kernel⟩
theorem d_X3_takeWord_17 : decode prog_5_method_16_code 17 = .ok (.invokevirtual 95, 3) := by decide +kernel
theorem d_X3_takeWord_20 : decode prog_5_method_16_code 20 = .ok (.return_, 1) := by decide +kernel
theorem k_843 : Cond.code ⟨"PinchedBill$Reader", "takeWord", "(Ljava/lang/String;)V"⟩ prog_5_method_16_code 2 none ∈ gd_tbl := gd_in 843 (by decide +kernel) (by decide +kernel)
theorem k_840 : Cond.methodLink "PinchedBill$Reader" 51 ⟨"PinchedBill$Reader", "takeWord", "(Ljava/lang/String;)V"⟩ ∈ gd_tbl := gd_in 840 (by decide +kernel) (by decide +kernel)
theorem k_842 : Cond.instanceMethod ⟨"PinchedBill$Reader", "takeWord", "(Ljava/lang/String;)V"⟩ ∈ gd_tbl := gd_in 842 (by decide +kernel) (by decide +kernel)
theorem k_15 : Cond.selects "PinchedBill$Reader" ⟨"PinchedBill$Reader", "takeWord", "(Ljava/lang/String;)V"⟩ ⟨"PinchedBill$Reader", "takeWord", "(Ljava/lang/String;)V"⟩ ∈ gd_tbl := gd_in 15 (by decide +kernel) (by decide +kernel)
theorem kV_PinchedBill_Reader_51 : kV "PinchedBill$Reader" 51 ⟨"PinchedBill$Reader", "takeWord", "(Ljava/lang/String;)V"⟩ prog_5_method_16_code 2 none 1 := ⟨k_840, k_842, k_15, k_118, k_843, by decide, by decide, by decide +kernel⟩
theorem d_X3_readsHouse_45 : decode prog_5_method_3_code 45 = .ok (.invokevirtual 51, 3) := by decide +kernel
theorem d_X3_readsHouse_48 : decode prog_5_method_3_code 48 = .ok (.aload_n 0, 1) := by decide +kernel
theorem d_X3_readsHouse_49 : decode prog_5_method_3_code 49 = .ok (.ldc 55, 2) := by decide +kernel
theorem d_X3_readsHouse_51 : decode prog_5_method_3_code 51 = .ok (.invokevirtual 51, 3) := by decide +kernel
theorem d_X3_readsHouse_54 : decode prog_5_method_3_code 54 = .ok (.aload_n 0, 1) := by decide +kernel
theorem d_X3_readsHouse_55 : decode prog_5_method_3_code 55 = .ok (.getfield 18, 3) := by decide +kernel
theorem d_X3_readsHouse_58 : decode prog_5_method_3_code 58 = .ok (.aload_n 0, 1) := by decide +kernel
theorem d_X3_readsHouse_59 : decode prog_5_method_3_code 59 = .ok (.iconst 1, 1) := by decide +kernel
theorem d_X3_readsHouse_60 : decode prog_5_method_3_code 60 = .ok (.iconst 3, 1) := by decide +kernel
theorem d_X3_takeNumber_0 : decode prog_5_method_18_code 0 = .ok (.aload_n 0, 1) := by decide +kernel
theorem d_X3_takeNumber_1 : decode prog_5_method_18_code 1 = .ok (.getfield 29, 3) := by decide +kernel
theorem d_X3_takeNumber_4 : decode prog_5_method_18_code 4 = .ok (.ifCond .ne 11, 3) := by decide +kernel
theorem d_X3_takeNumber_15 : decode prog_5_method_18_code 15 = .ok (.aload_n 0, 1) := by decide +kernel
theorem d_X3_takeNumber_16 : decode prog_5_method_18_code 16 = .ok (.iconst 2, 1) := by decide +kernel
theorem d_X3_takeNumber_17 : decode prog_5_method_18_code 17 = .ok (.invokevirtual 95, 3) := by decide +kernel
theorem d_X3_takeNumber_20 : decode prog_5_method_18_code 20 = .ok (.iload_n 1, 1) := by decide +kernel
theorem d_X3_takeNumber_21 : decode prog_5_method_18_code 21 = .ok (.ireturn, 1) := by decide +kernel
theorem k_877 : Cond.code ⟨"PinchedBill$Reader", "takeNumber", "(II)I"⟩ prog_5_method_18_code 4 (some .int) ∈ gd_tbl := gd_in 877 (by decide +kernel) (by decide +kernel)
theorem k_874 : Cond.methodLink "PinchedBill$Reader" 57 ⟨"PinchedBill$Reader", "takeNumber", "(II)I"⟩ ∈ gd_tbl := gd_in 874 (by decide +kernel) (by decide +kernel)
theorem k_876 : Cond.instanceMethod ⟨"PinchedBill$Reader", "takeNumber", "(II)I"⟩ ∈ gd_tbl := gd_in 876 (by decide +kernel) (by decide +kernel)
theorem k_18 : Cond.selects "PinchedBill$Reader" ⟨"PinchedBill$Reader", "takeNumber", "(II)I"⟩ ⟨"PinchedBill$Reader", "takeNumber", "(II)I"⟩ ∈ gd_tbl := gd_in 18 (by decide +kernel) (by decide +kernel)
theorem kV_PinchedBill_Reader_57 : kV "PinchedBill$Reader" 57 ⟨"PinchedBill$Reader", "takeNumber", "(II)I"⟩ prog_5_method_18_code 4 (some .int) 2 := ⟨k_874, k_876, k_18, k_118, k_877, by decide, by decide, by decide +kernel⟩
theorem d_X3_readsHouse_61 : decode prog_5_method_3_code 61 = .ok (.invokevirtual 57, 3) := by decide +kernel
theorem k_167 : Cond.fieldLink "PinchedBill$Reader" 60 "PinchedBill$House" "lines" "I" ∈ gd_tbl := gd_in 167 (by decide +kernel) (by decide +kernel)
theorem d_X3_readsHouse_64 : decode prog_5_method_3_code 64 = .ok (.putfield 60, 3) := by decide +kernel
theorem d_X3_readsHouse_67 : decode prog_5_method_3_code 67 = .ok (.aload_n 0, 1) := by decide +kernel
theorem d_X3_endLine_0 : decode prog_5_method_4_code 0 = .ok (.aload_n 0, 1) := by decide +kernel
theorem d_X3_endLine_1 : decode prog_5_method_4_code 1 = .ok (.bipush 59, 2) := by decide +kernel
theorem d_X3_takeSign_0 : decode prog_5_method_17_code 0 = .ok (.aload_n 0, 1) := by decide +kernel
theorem d_X3_takeSign_1 : decode prog_5_method_17_code 1 = .ok (.iload_n 1, 1) := by decide +kernel
theorem d_X3_isSign_0 : decode prog_5_method_21_code 0 = .ok (.aload_n 0, 1) := by decide +kernel
theorem d_X3_isSign_1 : decode prog_5_method_21_code 1 = .ok (.getfield 29, 3) := by decide +kernel
theorem d_X3_isSign_4 : decode prog_5_method_21_code 4 = .ok (.ifCond .ne 27, 3) := by decide +kernel
theorem d_X3_isSign_31 : decode prog_5_method_21_code 31 = .ok (.iconst 0, 1) := by decide +kernel
theorem d_X3_isSign_32 : decode prog_5_method_21_code 32 = .ok (.ireturn, 1) := by decide +kernel
theorem k_889 : Cond.code ⟨"PinchedBill$Reader", "isSign", "(C)Z"⟩ prog_5_method_21_code 2 (some .boolean) ∈ gd_tbl := gd_in 889 (by decide +kernel) (by decide +kernel)
theorem k_886 : Cond.methodLink "PinchedBill$Reader" 168 ⟨"PinchedBill$Reader", "isSign", "(C)Z"⟩ ∈ gd_tbl := gd_in 886 (by decide +kernel) (by decide +kernel)
theorem k_888 : Cond.instanceMethod ⟨"PinchedBill$Reader", "isSign", "(C)Z"⟩ ∈ gd_tbl := gd_in 888 (by decide +kernel) (by decide +kernel)
theorem k_21 : Cond.selects "PinchedBill$Reader" ⟨"PinchedBill$Reader", "isSign", "(C)Z"⟩ ⟨"PinchedBill$Reader", "isSign", "(C)Z"⟩ ∈ gd_tbl := gd_in 21 (by decide +kernel) (by decide +kernel)
theorem kV_PinchedBill_Reader_168 : kV "PinchedBill$Reader" 168 ⟨"PinchedBill$Reader", "isSign", "(C)Z"⟩ prog_5_method_21_code 2 (some .boolean) 1 := ⟨k_886, k_888, k_21, k_118, k_889, by decide, by decide, by decide +kernel⟩
theorem d_X3_takeSign_2 : decode prog_5_method_17_code 2 = .ok (.invokevirtual 168, 3) := by decide +kernel
theorem d_X3_takeSign_5 : decode prog_5_method_17_code 5 = .ok (.ifCond .eq 10, 3) := by decide +kernel
theorem d_X3_takeSign_15 : decode prog_5_method_17_code 15 = .ok (.aload_n 0, 1) := by decide +kernel
theorem d_X3_takeSign_16 : decode prog_5_method_17_code 16 = .ok (.iconst 2, 1) := by decide +kernel
theorem d_X3_takeSign_17 : decode prog_5_method_17_code 17 = .ok (.invokevirtual 95, 3) := by decide +kernel
theorem d_X3_takeSign_20 : decode prog_5_method_17_code 20 = .ok (.return_, 1) := by decide +kernel
theorem k_885 : Cond.code ⟨"PinchedBill$Reader", "takeSign", "(C)V"⟩ prog_5_method_17_code 2 none ∈ gd_tbl := gd_in 885 (by decide +kernel) (by decide +kernel)
theorem k_882 : Cond.methodLink "PinchedBill$Reader" 85 ⟨"PinchedBill$Reader", "takeSign", "(C)V"⟩ ∈ gd_tbl := gd_in 882 (by decide +kernel) (by decide +kernel)
theorem k_884 : Cond.instanceMethod ⟨"PinchedBill$Reader", "takeSign", "(C)V"⟩ ∈ gd_tbl := gd_in 884 (by decide +kernel) (by decide +kernel)
theorem k_20 : Cond.selects "PinchedBill$Reader" ⟨"PinchedBill$Reader", "takeSign", "(C)V"⟩ ⟨"PinchedBill$Reader", "takeSign", "(C)V"⟩ ∈ gd_tbl := gd_in 20 (by decide +kernel) (by decide +kernel)
theorem kV_PinchedBill_Reader_85 : kV "PinchedBill$Reader" 85 ⟨"PinchedBill$Reader", "takeSign", "(C)V"⟩ prog_5_method_17_code 2 none 1 := ⟨k_882, k_884, k_20, k_118, k_885, by decide, by decide, by decide +kernel⟩
theorem d_X3_endLine_3 : decode prog_5_method_4_code 3 = .ok (.invokevirtual 85, 3) := by decide +kernel
theorem d_X3_endLine_6 : decode prog_5_method_4_code 6 = .ok (.aload_n 0, 1) := by decide +kernel
theorem d_X3_endLine_7 : decode prog_5_method_4_code 7 = .ok (.getfield 18, 3) := by decide +kernel
theorem d_X3_endLine_10 : decode prog_5_method_4_code 10 = .ok (.dup, 1) := by decide +kernel
theorem k_165 : Cond.fieldLink "PinchedBill$Reader" 89 "PinchedBill$House" "textLines" "I" ∈ gd_tbl := gd_in 165 (by decide +kernel) (by decide +kernel)
theorem d_X3_endLine_11 : decode prog_5_method_4_code 11 = .ok (.getfield 89, 3) := by decide +kernel
theorem d_X3_endLine_14 : decode prog_5_method_4_code 14 = .ok (.iconst 1, 1) := by decide +kernel
theorem d_X3_endLine_15 : decode prog_5_method_4_code 15 = .ok (.iadd, 1) := by decide +kernel
theorem d_X3_endLine_16 : decode prog_5_method_4_code 16 = .ok (.putfield 89, 3) := by decide +kernel
theorem d_X3_endLine_19 : decode prog_5_method_4_code 19 = .ok (.return_, 1) := by decide +kernel
theorem k_881 : Cond.code ⟨"PinchedBill$Reader", "endLine", "()V"⟩ prog_5_method_4_code 1 none ∈ gd_tbl := gd_in 881 (by decide +kernel) (by decide +kernel)
theorem k_878 : Cond.methodLink "PinchedBill$Reader" 62 ⟨"PinchedBill$Reader", "endLine", "()V"⟩ ∈ gd_tbl := gd_in 878 (by decide +kernel) (by decide +kernel)
theorem k_880 : Cond.instanceMethod ⟨"PinchedBill$Reader", "endLine", "()V"⟩ ∈ gd_tbl := gd_in 880 (by decide +kernel) (by decide +kernel)
theorem k_19 : Cond.selects "PinchedBill$Reader" ⟨"PinchedBill$Reader", "endLine", "()V"⟩ ⟨"PinchedBill$Reader", "endLine", "()V"⟩ ∈ gd_tbl := gd_in 19 (by decide +kernel) (by decide +kernel)
theorem kV_PinchedBill_Reader_62 : kV "PinchedBill$Reader" 62 ⟨"PinchedBill$Reader", "endLine", "()V"⟩ prog_5_method_4_code 1 none 0 := ⟨k_878, k_880, k_19, k_118, k_881, by decide, by decide, by decide +kernel⟩
theorem d_X3_readsHouse_68 : decode prog_5_method_3_code 68 = .ok (.invokevirtual 62, 3) := by decide +kernel
theorem d_X3_readsHouse_71 : decode prog_5_method_3_code 71 = .ok (.iconst 0, 1) := by decide +kernel
theorem d_X3_readsHouse_72 : decode prog_5_method_3_code 72 = .ok (.istore_n 2, 1) := by decide +kernel
theorem d_X3_readsHouse_73 : decode prog_5_method_3_code 73 = .ok (.iload_n 2, 1) := by decide +kernel
theorem d_X3_readsHouse_74 : decode prog_5_method_3_code 74 = .ok (.sipush 900, 3) := by decide +kernel
theorem d_X3_readsHouse_77 : decode prog_5_method_3_code 77 = .ok (.if_icmp .ge 63, 3) := by decide +kernel
theorem d_X3_readsHouse_80 : decode prog_5_method_3_code 80 = .ok (.aload_n 0, 1) := by decide +kernel
theorem d_X3_readsHouse_81 : decode prog_5_method_3_code 81 = .ok (.getfield 29, 3) := by decide +kernel
theorem d_X3_readsHouse_84 : decode prog_5_method_3_code 84 = .ok (.ifCond .ne 56, 3) := by decide +kernel
theorem d_X3_readsHouse_140 : decode prog_5_method_3_code 140 = .ok (.aload_n 0, 1) := by decide +kernel
theorem d_X3_readsHouse_141 : decode prog_5_method_3_code 141 = .ok (.getfield 29, 3) := by decide +kernel
theorem d_X3_readsHouse_144 : decode prog_5_method_3_code 144 = .ok (.ifCond .ne 7, 3) := by decide +kernel
theorem d_X3_readsHouse_151 : decode prog_5_method_3_code 151 = .ok (.iconst 0, 1) := by decide +kernel
theorem d_X3_readsHouse_152 : decode prog_5_method_3_code 152 = .ok (.ireturn, 1) := by decide +kernel
theorem k_735 : Cond.code ⟨"PinchedBill$Reader", "readsHouse", "(I)Z"⟩ prog_5_method_3_code 3 (some .boolean) ∈ gd_tbl := gd_in 735 (by decide +kernel) (by decide +kernel)
theorem k_732 : Cond.methodLink "PinchedBill" 57 ⟨"PinchedBill$Reader", "readsHouse", "(I)Z"⟩ ∈ gd_tbl := gd_in 732 (by decide +kernel) (by decide +kernel)
theorem k_733 : Cond.instanceMethod ⟨"PinchedBill$Reader", "readsHouse", "(I)Z"⟩ ∈ gd_tbl := gd_in 733 (by decide +kernel) (by decide +kernel)
theorem k_734 : Cond.selects "PinchedBill$Reader" ⟨"PinchedBill$Reader", "readsHouse", "(I)Z"⟩ ⟨"PinchedBill$Reader", "readsHouse", "(I)Z"⟩ ∈ gd_tbl := gd_in 734 (by decide +kernel) (by decide +kernel)
theorem kV_PinchedBill_57 : kV "PinchedBill" 57 ⟨"PinchedBill$Reader", "readsHouse", "(I)Z"⟩ prog_5_method_3_code 3 (some .boolean) 1 := ⟨k_732, k_733, k_734, k_118, k_735, by decide, by decide, by decide +kernel⟩
theorem d_X8_house_17 : decode prog_1_method_3_code 17 = .ok (.invokevirtual 57, 3) := by decide +kernel
theorem d_X8_house_20 : decode prog_1_method_3_code 20 = .ok (.ifCond .ne 14, 3) := by decide +kernel
theorem d_X8_house_23 : decode prog_1_method_3_code 23 = .ok (.bipush (-10), 2) := by decide +kernel
theorem d_X8_house_25 : decode prog_1_method_3_code 25 = .ok (.aload_n 0, 1) := by decide +kernel
theorem d_X8_house_26 : decode prog_1_method_3_code 26 = .ok (.getfield 10, 3) := by decide +kernel
theorem d_X8_house_29 : decode prog_1_method_3_code 29 = .ok (.getfield 61, 3) := by decide +kernel
theorem d_X8_house_32 : decode prog_1_method_3_code 32 = .ok (.isub, 1) := by decide +kernel
theorem d_X8_house_33 : decode prog_1_method_3_code 33 = .ok (.ireturn, 1) := by decide +kernel
theorem lcN_nlt {x y : Int64} (a b : Nat) (hx : x = lN a) (hy : y = lN b) (h : b ≤ a) (ha : a < 2 ^ 31) (hb : b < 2 ^ 31) : ¬ lg_cmp x y < 0 := by
  subst hx; subst hy
  rw [lg_cmp_lt, lN_lt ha hb]
  omega
theorem no_undo {n : Int32} (h : ¬ n < 1 ∧ ¬ 0 < n) : False := by
  have h1 := h.1
  have h2 := h.2
  rw [Int32.lt_iff_toInt_lt] at h1 h2
  have e1 : (1 : Int32).toInt = 1 := by decide
  have e0 : (0 : Int32).toInt = 0 := by decide
  omega
def dV (b : Int32) : Int32 := if bB b = 1 then 0 else -1
theorem wB_01 (a : Nat) : wB a = 0 ∨ wB a = 1 := by
  unfold wB
  split
  · exact Or.inl rfl
  · exact Or.inr rfl
theorem dV_1 {a : Nat} (h : ¬ wB a = 0) : 0 - wB a = dV (nI a) := by
  unfold wB at h
  unfold wB dV
  by_cases hb : bB (nI a) = 1
  · rw [if_pos hb] at h; exact absurd rfl h
  · rw [if_neg hb, if_neg hb]; decide
theorem dV_0 {a : Nat} (h : wB a = 0) : 0 = dV (nI a) := by
  unfold wB at h
  unfold dV
  by_cases hb : bB (nI a) = 1
  · rw [if_pos hb]
  · rw [if_neg hb] at h; exact absurd h (by decide)
theorem dV_a {b : Int32} (h : b < 0) : -1 = dV b := by
  unfold dV bB
  simp [h]
theorem dV_b {b : Int32} (h0 : ¬ b < 0) (h : ¬ b < 1000) : -1 = dV b := by
  unfold dV bB
  have h1 : 1000 ≤ b := Int32.not_lt.mp h
  simp [h0, h1]
theorem cN_out {w : Int32} (h : w.toInt < 0 ∨ 7 < w.toInt) : -1 = cN w := by
  unfold cN
  rw [if_neg (fun h1 => by rw [h1] at h; exact absurd h (by decide)), if_neg (fun h1 => by rw [h1] at h; exact absurd h (by decide)), if_pos h]
set_option maxHeartbeats 4000000 in
set_option maxRecDepth 100000 in
theorem p_person (l : Launch) (D : va_G) (ty : Nat → ClassId) (h0 : Nat) (rd : Nat) (ho : Nat) (nw : Nat) (tr : Nat) (ts : Nat) (im : Nat) (g1 : Nat) (g2 : Nat) (g3 : Nat) (pn : Int32) (wh : Int32) (hl9 : l.stackTraces = false) : CX l D ty ⟨"PinchedBill", "person", "(II)I"⟩ prog_1_method_5_code 4 (some .int) 7 103 1 6 [.ref h0, .int pn, .int wh] [(h0, eO 8 [.ref rd, .ref ho, .ref nw, .ref tr, .ref ts, .ref im, .null]), (ho, eO 0 [.int 0, .int 1, .int 0, .int 0, .int 0, .int 0, .int 0, .int 0, .int 0, .int 0, .ref g1, .ref g2, .ref g3])] QN (fun E => E = "java/util/NoSuchElementException") := by
  refine CX_of (by decide) ?_
  intro p e s m below meth c A C hnt hP hD hS
  obtain ⟨⟨hx, hb, hml, hown, hts⟩, hr, hlocks, hnm, hK, hE, hA, hZ⟩ := id C
  refine startW [.ref h0, .int pn, .int wh] 4 (nle rfl) (lv := [(0, .ref h0), (1, .int pn), (2, .int wh)]) rfl (fun ls hl => ?_)
  refine lv_aload_n hx hb d_X8_person_0 rfl (lv_at hl 0 rfl) ?_
  refine lv_iload_n hx hb d_X8_person_1 rfl (lv_at hl 1 rfl) ?_
  have ct_1 : Cut [(h0, eO 8 [.ref rd, .ref ho, .ref nw, .ref tr, .ref ts, .ref im, .null]), (ho, eO 0 [.int 0, .int 1, .int 0, .int 0, .int 0, .int 0, .int 0, .int 0, .int 0, .int 0, .ref g1, .ref g2, .ref g3])] [(h0, eO 8 [.ref rd, .ref ho, .ref nw, .ref tr, .ref ts, .ref im, .null]), (ho, eO 0 [.int 0, .int 1, .int 0, .int 0, .int 0, .int 0, .int 0, .int 0, .int 0, .int 0, .ref g1, .ref g2, .ref g3])] [] [0, 1] [] := ⟨rfl, rfl, rfl, rfl, by decide⟩
  exact contx_N C hnt hP hD hS ct_1 (fun _ h => h) (by decide) (by decide) (runx_V (As := [.int pn]) (rest := []) C hP hD hS ct_1 (x_person l D ty h0 rd ho nw tr ts im g1 g2 g3 pn hl9) kV_PinchedBill_81 0 rfl rfl rfl rfl hl.1 rfl (nle rfl) d_X8_person_2 ⟨by decide, by decide, by decide, by decide⟩)
set_option maxHeartbeats 4000000 in
set_option maxRecDepth 100000 in
theorem p_spoken (l : Launch) (D : va_G) (ty : Nat → ClassId) (h0 : Nat) (rd : Nat) (ho : Nat) (nw : Nat) (tr : Nat) (ts : Nat) (im : Nat) (g1 : Nat) (g2 : Nat) (g3 : Nat) (b : Int32) (pn : Int32) (hl9 : l.stackTraces = false) : CX l D ty ⟨"PinchedBill", "spoken", "(II)I"⟩ prog_1_method_10_code 3 (some .int) 7 103 1 6 [.ref h0, .int b, .int pn] [(h0, eO 8 [.ref rd, .ref ho, .ref nw, .ref tr, .ref ts, .ref im, .null]), (ho, eO 0 [.int 0, .int 1, .int 0, .int 0, .int 0, .int 0, .int 0, .int 0, .int 0, .int 0, .ref g1, .ref g2, .ref g3])] QN (fun E => E = "java/util/NoSuchElementException") := by
  refine CX_of (by decide) ?_
  intro p e s m below meth c A C hnt hP hD hS
  obtain ⟨⟨hx, hb, hml, hown, hts⟩, hr, hlocks, hnm, hK, hE, hA, hZ⟩ := id C
  refine startW [.ref h0, .int b, .int pn] 3 (nle rfl) (lv := [(0, .ref h0), (1, .int b), (2, .int pn)]) rfl (fun ls hl => ?_)
  refine lv_aload_n hx hb d_X8_spoken_0 rfl (lv_at hl 0 rfl) ?_
  refine lv_iload_n hx hb d_X8_spoken_1 rfl (lv_at hl 2 rfl) ?_
  have ct_1 : Cut [(h0, eO 8 [.ref rd, .ref ho, .ref nw, .ref tr, .ref ts, .ref im, .null]), (ho, eO 0 [.int 0, .int 1, .int 0, .int 0, .int 0, .int 0, .int 0, .int 0, .int 0, .int 0, .ref g1, .ref g2, .ref g3])] [(h0, eO 8 [.ref rd, .ref ho, .ref nw, .ref tr, .ref ts, .ref im, .null]), (ho, eO 0 [.int 0, .int 1, .int 0, .int 0, .int 0, .int 0, .int 0, .int 0, .int 0, .int 0, .ref g1, .ref g2, .ref g3])] [] [0, 1] [] := ⟨rfl, rfl, rfl, rfl, by decide⟩
  exact contx_N C hnt hP hD hS ct_1 (fun _ h => h) (by decide) (by decide) (runx_V (As := [.int pn]) (rest := []) C hP hD hS ct_1 (x_person l D ty h0 rd ho nw tr ts im g1 g2 g3 pn hl9) kV_PinchedBill_81 0 rfl rfl rfl rfl hl.1 rfl (nle rfl) d_X8_spoken_2 ⟨by decide, by decide, by decide, by decide⟩)
set_option maxHeartbeats 4000000 in
set_option maxRecDepth 100000 in
theorem p_share (l : Launch) (D : va_G) (ty : Nat → ClassId) (h0 : Nat) (rd : Nat) (ho : Nat) (nw : Nat) (tr : Nat) (ts : Nat) (im : Nat) (g1 : Nat) (g2 : Nat) (g3 : Nat) (b : Int32) (pn : Int32) (n : Int32) (hl9 : l.stackTraces = false) : CX l D ty ⟨"PinchedBill", "share", "(III)I"⟩ prog_1_method_32_code 5 (some .int) 7 103 1 6 [.ref h0, .int b, .int pn, .int n] [(h0, eO 8 [.ref rd, .ref ho, .ref nw, .ref tr, .ref ts, .ref im, .null]), (ho, eO 0 [.int 0, .int 1, .int 0, .int 0, .int 0, .int 0, .int 0, .int 0, .int 0, .int 0, .ref g1, .ref g2, .ref g3])] QN (fun E => E = "java/util/NoSuchElementException") := by
  refine CX_of (by decide) ?_
  intro p e s m below meth c A C hnt hP hD hS
  obtain ⟨⟨hx, hb, hml, hown, hts⟩, hr, hlocks, hnm, hK, hE, hA, hZ⟩ := id C
  refine startW [.ref h0, .int b, .int pn, .int n] 5 (nle rfl) (lv := [(0, .ref h0), (1, .int b), (2, .int pn), (3, .int n)]) rfl (fun ls hl => ?_)
  refine lv_aload_n hx hb d_X8_share_0 rfl (lv_at hl 0 rfl) ?_
  refine lv_iload_n hx hb d_X8_share_1 rfl (lv_at hl 2 rfl) ?_
  have ct_1 : Cut [(h0, eO 8 [.ref rd, .ref ho, .ref nw, .ref tr, .ref ts, .ref im, .null]), (ho, eO 0 [.int 0, .int 1, .int 0, .int 0, .int 0, .int 0, .int 0, .int 0, .int 0, .int 0, .ref g1, .ref g2, .ref g3])] [(h0, eO 8 [.ref rd, .ref ho, .ref nw, .ref tr, .ref ts, .ref im, .null]), (ho, eO 0 [.int 0, .int 1, .int 0, .int 0, .int 0, .int 0, .int 0, .int 0, .int 0, .int 0, .ref g1, .ref g2, .ref g3])] [] [0, 1] [] := ⟨rfl, rfl, rfl, rfl, by decide⟩
  exact contx_N C hnt hP hD hS ct_1 (fun _ h => h) (by decide) (by decide) (runx_V (As := [.int pn]) (rest := []) C hP hD hS ct_1 (x_person l D ty h0 rd ho nw tr ts im g1 g2 g3 pn hl9) kV_PinchedBill_81 0 rfl rfl rfl rfl hl.1 rfl (nle rfl) d_X8_share_2 ⟨by decide, by decide, by decide, by decide⟩)
set_option maxHeartbeats 4000000 in
set_option maxRecDepth 100000 in
theorem p_undo (l : Launch) (D : va_G) (ty : Nat → ClassId) (h0 : Nat) (rd : Nat) (ho : Nat) (nw : Nat) (tr : Nat) (ts : Nat) (im : Nat) (n0 : Nat) (n1 : Nat) (n2 : Nat) (n3 : Nat) (n : Int32) (hl9 : l.stackTraces = false) : CX l D ty ⟨"PinchedBill", "undo", "(I)I"⟩ prog_1_method_15_code 3 (some .int) 7 104 1 6 [.ref h0, .int n] [(h0, eO 8 [.ref rd, .ref ho, .ref nw, .ref tr, .ref ts, .ref im, .null]), (nw, eO 5 [.ref n0, .int 0, .int 0, .ref n1, .ref n2, .ref n3])] QN (fun E => E = "java/lang/IllegalArgumentException") := by
  refine CX_of (by decide) ?_
  intro p e s m below meth c A C hnt hP hD hS
  obtain ⟨⟨hx, hb, hml, hown, hts⟩, hr, hlocks, hnm, hK, hE, hA, hZ⟩ := id C
  refine startW [.ref h0, .int n] 3 (nle rfl) (lv := [(0, .ref h0), (1, .int n)]) rfl (fun ls hl => ?_)
  refine lv_iload_n hx hb d_X8_undo_0 rfl (lv_at hl 1 rfl) ?_
  refine lv_iconst (v := 1) hx hb d_X8_undo_1 (by decide) ?_
  refine lv_aload_n hx hb d_X8_undo_2 rfl (lv_at hl 0 rfl) ?_
  refine r_get (v := .ref nw) C hP 0 rfl rfl lay_X8 2 (by decide) k_322 rfl d_X8_undo_3 ?_
  refine r_get (v := .int 0) C hP 1 rfl rfl lay_X5 2 (by decide) k_299 rfl d_X8_undo_6 ?_
  have ct_1 : Cut [(h0, eO 8 [.ref rd, .ref ho, .ref nw, .ref tr, .ref ts, .ref im, .null]), (nw, eO 5 [.ref n0, .int 0, .int 0, .ref n1, .ref n2, .ref n3])] [] [(h0, eO 8 [.ref rd, .ref ho, .ref nw, .ref tr, .ref ts, .ref im, .null]), (nw, eO 5 [.ref n0, .int 0, .int 0, .ref n1, .ref n2, .ref n3])] [] [0, 1] := ⟨rfl, rfl, rfl, rfl, by decide⟩
  refine contx_V C hnt hP hD hS ct_1 (fun E h => h.1) (by decide) (by decide) (runx_S (As := [.int n, .int 1, .int 0]) (rest := []) C hP hD hS ct_1 (x_within l D ty n 1 0 hl9) kS_PinchedBill_53 rfl hl.1 rfl (nle rfl) d_X8_undo_9 ⟨by decide, by decide, by decide, by decide⟩) (fun w_4 H locs hw_2 hP hD hS => ?_)
  obtain ⟨hwi_5, rfl⟩ := hw_2
  have hP : va_P D vwCl [(h0, eO 8 [.ref rd, .ref ho, .ref nw, .ref tr, .ref ts, .ref im, .null]), (nw, eO 5 [.ref n0, .int 0, .int 0, .ref n1, .ref n2, .ref n3])] H := hP
  have hD : va_D A [(h0, eO 8 [.ref rd, .ref ho, .ref nw, .ref tr, .ref ts, .ref im, .null]), (nw, eO 5 [.ref n0, .int 0, .int 0, .ref n1, .ref n2, .ref n3])] := hD
  exact (no_undo hwi_5).elim
set_option maxHeartbeats 4000000 in
set_option maxRecDepth 100000 in
theorem p_judge (l : Launch) (D : va_G) (ty : Nat → ClassId) (h0 : Nat) (rd : Nat) (ho : Nat) (nw : Nat) (tr : Nat) (ts : Nat) (im : Nat) (t : Int32) (wh : Int32) (hl9 : l.stackTraces = false) : CX l D ty ⟨"PinchedBill", "judge", "(II)I"⟩ prog_1_method_16_code 5 (some .int) 8 124 2 12 [.ref h0, .int t, .int wh] [(h0, eO 8 [.ref rd, .ref ho, .ref nw, .ref tr, .ref ts, .ref im, .null]), (ts, eQ (ty 4) 4 (fun _ => none))] QN (fun E => (E = "java/util/NoSuchElementException" ∧ ¬ (¬ t < 0 ∧ t < 4)) ∨ (E = "java/lang/IllegalStateException" ∧ (¬ t < 0 ∧ t < 4))) := by
  refine CX_of (by decide) ?_
  intro p e s m below meth c A C hnt hP hD hS
  obtain ⟨⟨hx, hb, hml, hown, hts⟩, hr, hlocks, hnm, hK, hE, hA, hZ⟩ := id C
  refine startW [.ref h0, .int t, .int wh] 5 (nle rfl) (lv := [(0, .ref h0), (1, .int t), (2, .int wh)]) rfl (fun ls hl => ?_)
  refine lv_aload_n hx hb d_X8_judge_0 rfl (lv_at hl 0 rfl) ?_
  refine lv_iload_n hx hb d_X8_judge_1 rfl (lv_at hl 1 rfl) ?_
  have ct_1 : Cut [(h0, eO 8 [.ref rd, .ref ho, .ref nw, .ref tr, .ref ts, .ref im, .null]), (ts, eQ (ty 4) 4 (fun _ => none))] [(h0, eO 8 [.ref rd, .ref ho, .ref nw, .ref tr, .ref ts, .ref im, .null]), (ts, eQ (ty 4) 4 (fun _ => none))] [] [0, 1] [] := ⟨rfl, rfl, rfl, rfl, by decide⟩
  exact contx_N C hnt hP hD hS ct_1 (fun _ h => h) (by decide) (by decide) (runx_V (As := [.int t]) (rest := []) C hP hD hS ct_1 (x_trayThere l D ty h0 rd ho nw tr ts im t (.null) hl9) kV_PinchedBill_145 0 rfl rfl rfl rfl hl.1 rfl (nle rfl) d_X8_judge_2 ⟨by decide, by decide, by decide, by decide⟩)
set_option maxHeartbeats 4000000 in
set_option maxRecDepth 100000 in
theorem p_perform (l : Launch) (D : va_G) (ty : Nat → ClassId) (h0 : Nat) (rd : Nat) (ho : Nat) (nw : Nat) (tr : Nat) (ts : Nat) (im : Nat) (t : Int32) (hl9 : l.stackTraces = false) : CX l D ty ⟨"PinchedBill", "perform", "(I)I"⟩ prog_1_method_17_code 2 (some .int) 8 124 2 12 [.ref h0, .int t] [(h0, eO 8 [.ref rd, .ref ho, .ref nw, .ref tr, .ref ts, .ref im, .null]), (ts, eQ (ty 4) 4 (fun _ => none))] QN (fun E => (E = "java/util/NoSuchElementException" ∧ ¬ (¬ t < 0 ∧ t < 4)) ∨ (E = "java/lang/IllegalStateException" ∧ (¬ t < 0 ∧ t < 4))) := by
  refine CX_of (by decide) ?_
  intro p e s m below meth c A C hnt hP hD hS
  obtain ⟨⟨hx, hb, hml, hown, hts⟩, hr, hlocks, hnm, hK, hE, hA, hZ⟩ := id C
  refine startW [.ref h0, .int t] 2 (nle rfl) (lv := [(0, .ref h0), (1, .int t)]) rfl (fun ls hl => ?_)
  refine lv_aload_n hx hb d_X8_perform_0 rfl (lv_at hl 0 rfl) ?_
  refine lv_aload_n hx hb d_X8_perform_1 rfl (lv_at hl 0 rfl) ?_
  refine lv_iload_n hx hb d_X8_perform_2 rfl (lv_at hl 1 rfl) ?_
  have ct_1 : Cut [(h0, eO 8 [.ref rd, .ref ho, .ref nw, .ref tr, .ref ts, .ref im, .null]), (ts, eQ (ty 4) 4 (fun _ => none))] [(h0, eO 8 [.ref rd, .ref ho, .ref nw, .ref tr, .ref ts, .ref im, .null]), (ts, eQ (ty 4) 4 (fun _ => none))] [] [0, 1] [] := ⟨rfl, rfl, rfl, rfl, by decide⟩
  exact contx_N C hnt hP hD hS ct_1 (fun _ h => h) (by decide) (by decide) (runx_V (As := [.int t]) (rest := [.ref h0]) C hP hD hS ct_1 (x_trayThere l D ty h0 rd ho nw tr ts im t (.null) hl9) kV_PinchedBill_145 0 rfl rfl rfl rfl hl.1 rfl (nle rfl) d_X8_perform_3 ⟨by decide, by decide, by decide, by decide⟩)
set_option maxHeartbeats 4000000 in
set_option maxRecDepth 100000 in
theorem p_seen (l : Launch) (D : va_G) (ty : Nat → ClassId) (h0 : Nat) (rd : Nat) (ho : Nat) (nw : Nat) (tr : Nat) (ts : Nat) (im : Nat) (g1 : Nat) (g2 : Nat) (g3 : Nat) (t : Int32) (hl9 : l.stackTraces = false) : CX l D ty ⟨"PinchedBill", "seen", "(I)I"⟩ prog_1_method_36_code 2 (some .int) 9 149 17 22375 [.ref h0, .int t] [(h0, eO 8 [.ref rd, .ref ho, .ref nw, .ref tr, .ref ts, .ref im, .null]), (ho, eO 0 [.int 0, .int 1, .int 0, .int 0, .int 0, .int 0, .int 0, .int 0, .int 0, .int 0, .ref g1, .ref g2, .ref g3]), (ts, eQ (ty 4) 4 (fun _ => none))] QN (fun E => (E = "java/util/NoSuchElementException" ∧ ¬ (¬ t < 0 ∧ t < 4)) ∨ (E = "java/lang/IllegalStateException" ∧ (¬ t < 0 ∧ t < 4))) := by
  refine CX_of (by decide) ?_
  intro p e s m below meth c A C hnt hP hD hS
  obtain ⟨⟨hx, hb, hml, hown, hts⟩, hr, hlocks, hnm, hK, hE, hA, hZ⟩ := id C
  refine startW [.ref h0, .int t] 2 (nle rfl) (lv := [(0, .ref h0), (1, .int t)]) rfl (fun ls hl => ?_)
  refine lv_aload_n hx hb d_X8_seen_0 rfl (lv_at hl 0 rfl) ?_
  have ct_1 : Cut [(h0, eO 8 [.ref rd, .ref ho, .ref nw, .ref tr, .ref ts, .ref im, .null]), (ho, eO 0 [.int 0, .int 1, .int 0, .int 0, .int 0, .int 0, .int 0, .int 0, .int 0, .int 0, .ref g1, .ref g2, .ref g3]), (ts, eQ (ty 4) 4 (fun _ => none))] [(h0, eO 8 [.ref rd, .ref ho, .ref nw, .ref tr, .ref ts, .ref im, .null]), (ho, eO 0 [.int 0, .int 1, .int 0, .int 0, .int 0, .int 0, .int 0, .int 0, .int 0, .int 0, .ref g1, .ref g2, .ref g3])] [(ts, eQ (ty 4) 4 (fun _ => none))] [0, 1] [2] := ⟨rfl, rfl, rfl, rfl, by decide⟩
  refine cont_R C hP hD hS ct_1 (run_V (As := []) (rest := []) C hP hD hS ct_1 (c_reckoned l D ty h0 rd ho nw tr ts im g1 g2 g3) kV_PinchedBill_184 0 rfl rfl rfl rfl hl.1 rfl (nle rfl) d_X8_seen_1 ⟨by decide, by decide, by decide, by decide⟩) (fun r_18 w_19 H locs hw_17 hP hD hS => ?_)
  obtain ⟨rk_2, lw_3, l1_4, l2_5, l3_6, l4_7, w1_8, w2_9, m1_10, m2_11, m3_12, m4_13, m5_14, m6_15, m7_16, rfl, rfl⟩ := hw_17
  have hP : va_P D vwCl [(ts, eQ (ty 4) 4 (fun _ => none)), (h0, eO 8 [.ref rd, .ref ho, .ref nw, .ref tr, .ref ts, .ref im, .ref rk_2]), (ho, eO 0 [.int 0, .int 1, .int 0, .int 0, .int 0, .int 0, .int 0, .int 0, .int 0, .int 0, .ref g1, .ref g2, .ref g3]), (rk_2, eO 4 [.ref lw_3, .ref w1_8, .ref w2_9, .int 0, .int 0, .int 0, .ref ho, .ref m1_10, .int 1, .ref m2_11, .ref m3_12, .int (-1), .ref m4_13, .int (-1), .ref m5_14, .ref m6_15, .ref m7_16, .int 0]), (lw_3, eO 2 [.ref ho, .ref l1_4, .ref l2_5, .ref l3_6, .ref l4_7]), (l1_4, eI (ty 0) 1000 (fun _ => 0)), (l2_5, eI (ty 0) 8000 (fun _ => 0)), (l3_6, eI (ty 0) 8 (fun _ => 0)), (l4_7, eI (ty 0) 64 (fun _ => 0)), (w1_8, eO 7 [.int 0, .int (-1)]), (w2_9, eO 7 [.int 0, .int (-1)]), (m1_10, eI (ty 0) 9000 (fun _ => 0)), (m2_11, eI (ty 0) 1000 (fun _ => 0)), (m3_12, eI (ty 0) 1000 (fun _ => 0)), (m4_13, eI (ty 0) 256 (fun _ => 0)), (m5_14, eI (ty 0) 8 (fun _ => 0)), (m6_15, eI (ty 0) 1000 (fun _ => 0)), (m7_16, eI (ty 0) 1000 (fun _ => 0))] H := hP
  have hD : va_D A [(ts, eQ (ty 4) 4 (fun _ => none)), (h0, eO 8 [.ref rd, .ref ho, .ref nw, .ref tr, .ref ts, .ref im, .ref rk_2]), (ho, eO 0 [.int 0, .int 1, .int 0, .int 0, .int 0, .int 0, .int 0, .int 0, .int 0, .int 0, .ref g1, .ref g2, .ref g3]), (rk_2, eO 4 [.ref lw_3, .ref w1_8, .ref w2_9, .int 0, .int 0, .int 0, .ref ho, .ref m1_10, .int 1, .ref m2_11, .ref m3_12, .int (-1), .ref m4_13, .int (-1), .ref m5_14, .ref m6_15, .ref m7_16, .int 0]), (lw_3, eO 2 [.ref ho, .ref l1_4, .ref l2_5, .ref l3_6, .ref l4_7]), (l1_4, eI (ty 0) 1000 (fun _ => 0)), (l2_5, eI (ty 0) 8000 (fun _ => 0)), (l3_6, eI (ty 0) 8 (fun _ => 0)), (l4_7, eI (ty 0) 64 (fun _ => 0)), (w1_8, eO 7 [.int 0, .int (-1)]), (w2_9, eO 7 [.int 0, .int (-1)]), (m1_10, eI (ty 0) 9000 (fun _ => 0)), (m2_11, eI (ty 0) 1000 (fun _ => 0)), (m3_12, eI (ty 0) 1000 (fun _ => 0)), (m4_13, eI (ty 0) 256 (fun _ => 0)), (m5_14, eI (ty 0) 8 (fun _ => 0)), (m6_15, eI (ty 0) 1000 (fun _ => 0)), (m7_16, eI (ty 0) 1000 (fun _ => 0))] := hD
  refine lv_aload_n hx hb d_X8_seen_4 rfl (lv_at hl 0 rfl) ?_
  refine lv_iload_n hx hb d_X8_seen_5 rfl (lv_at hl 1 rfl) ?_
  have ct_20 : Cut [(ts, eQ (ty 4) 4 (fun _ => none)), (h0, eO 8 [.ref rd, .ref ho, .ref nw, .ref tr, .ref ts, .ref im, .ref rk_2]), (ho, eO 0 [.int 0, .int 1, .int 0, .int 0, .int 0, .int 0, .int 0, .int 0, .int 0, .int 0, .ref g1, .ref g2, .ref g3]), (rk_2, eO 4 [.ref lw_3, .ref w1_8, .ref w2_9, .int 0, .int 0, .int 0, .ref ho, .ref m1_10, .int 1, .ref m2_11, .ref m3_12, .int (-1), .ref m4_13, .int (-1), .ref m5_14, .ref m6_15, .ref m7_16, .int 0]), (lw_3, eO 2 [.ref ho, .ref l1_4, .ref l2_5, .ref l3_6, .ref l4_7]), (l1_4, eI (ty 0) 1000 (fun _ => 0)), (l2_5, eI (ty 0) 8000 (fun _ => 0)), (l3_6, eI (ty 0) 8 (fun _ => 0)), (l4_7, eI (ty 0) 64 (fun _ => 0)), (w1_8, eO 7 [.int 0, .int (-1)]), (w2_9, eO 7 [.int 0, .int (-1)]), (m1_10, eI (ty 0) 9000 (fun _ => 0)), (m2_11, eI (ty 0) 1000 (fun _ => 0)), (m3_12, eI (ty 0) 1000 (fun _ => 0)), (m4_13, eI (ty 0) 256 (fun _ => 0)), (m5_14, eI (ty 0) 8 (fun _ => 0)), (m6_15, eI (ty 0) 1000 (fun _ => 0)), (m7_16, eI (ty 0) 1000 (fun _ => 0))] [(h0, eO 8 [.ref rd, .ref ho, .ref nw, .ref tr, .ref ts, .ref im, .ref rk_2]), (ts, eQ (ty 4) 4 (fun _ => none))] [(ho, eO 0 [.int 0, .int 1, .int 0, .int 0, .int 0, .int 0, .int 0, .int 0, .int 0, .int 0, .ref g1, .ref g2, .ref g3]), (rk_2, eO 4 [.ref lw_3, .ref w1_8, .ref w2_9, .int 0, .int 0, .int 0, .ref ho, .ref m1_10, .int 1, .ref m2_11, .ref m3_12, .int (-1), .ref m4_13, .int (-1), .ref m5_14, .ref m6_15, .ref m7_16, .int 0]), (lw_3, eO 2 [.ref ho, .ref l1_4, .ref l2_5, .ref l3_6, .ref l4_7]), (l1_4, eI (ty 0) 1000 (fun _ => 0)), (l2_5, eI (ty 0) 8000 (fun _ => 0)), (l3_6, eI (ty 0) 8 (fun _ => 0)), (l4_7, eI (ty 0) 64 (fun _ => 0)), (w1_8, eO 7 [.int 0, .int (-1)]), (w2_9, eO 7 [.int 0, .int (-1)]), (m1_10, eI (ty 0) 9000 (fun _ => 0)), (m2_11, eI (ty 0) 1000 (fun _ => 0)), (m3_12, eI (ty 0) 1000 (fun _ => 0)), (m4_13, eI (ty 0) 256 (fun _ => 0)), (m5_14, eI (ty 0) 8 (fun _ => 0)), (m6_15, eI (ty 0) 1000 (fun _ => 0)), (m7_16, eI (ty 0) 1000 (fun _ => 0))] [1, 0] [2, 3, 4, 5, 6, 7, 8, 9, 10, 11, 12, 13, 14, 15, 16, 17] := ⟨rfl, rfl, rfl, rfl, by decide⟩
  exact contx_N C hnt hP hD hS ct_20 (fun _ h => h) (by decide) (by decide) (runx_V (As := [.int t]) (rest := [.ref rk_2]) C hP hD hS ct_20 (x_traySeen l D ty h0 rd ho nw tr ts im t (.ref rk_2) hl9) kV_PinchedBill_236 1 rfl rfl rfl rfl hl.1 rfl (nle rfl) d_X8_seen_6 ⟨by decide, by decide, by decide, by decide⟩)
set_option maxHeartbeats 4000000 in
set_option maxRecDepth 100000 in
theorem p_seenAt (l : Launch) (D : va_G) (ty : Nat → ClassId) (h0 : Nat) (rd : Nat) (ho : Nat) (nw : Nat) (tr : Nat) (ts : Nat) (im : Nat) (t : Int32) (kk : Int32) (hl9 : l.stackTraces = false) : CX l D ty ⟨"PinchedBill", "seenAt", "(II)I"⟩ prog_1_method_37_code 5 (some .int) 9 149 2 12 [.ref h0, .int t, .int kk] [(h0, eO 8 [.ref rd, .ref ho, .ref nw, .ref tr, .ref ts, .ref im, .null]), (ts, eQ (ty 4) 4 (fun _ => none))] QN (fun E => (E = "java/util/NoSuchElementException" ∧ ¬ (¬ t < 0 ∧ t < 4)) ∨ (E = "java/lang/IllegalStateException" ∧ (¬ t < 0 ∧ t < 4))) := by
  refine CX_of (by decide) ?_
  intro p e s m below meth c A C hnt hP hD hS
  obtain ⟨⟨hx, hb, hml, hown, hts⟩, hr, hlocks, hnm, hK, hE, hA, hZ⟩ := id C
  refine startW [.ref h0, .int t, .int kk] 5 (nle rfl) (lv := [(0, .ref h0), (1, .int t), (2, .int kk)]) rfl (fun ls hl => ?_)
  refine lv_aload_n hx hb d_X8_seenAt_0 rfl (lv_at hl 0 rfl) ?_
  refine lv_iload_n hx hb d_X8_seenAt_1 rfl (lv_at hl 1 rfl) ?_
  have ct_1 : Cut [(h0, eO 8 [.ref rd, .ref ho, .ref nw, .ref tr, .ref ts, .ref im, .null]), (ts, eQ (ty 4) 4 (fun _ => none))] [(h0, eO 8 [.ref rd, .ref ho, .ref nw, .ref tr, .ref ts, .ref im, .null]), (ts, eQ (ty 4) 4 (fun _ => none))] [] [0, 1] [] := ⟨rfl, rfl, rfl, rfl, by decide⟩
  exact contx_N C hnt hP hD hS ct_1 (fun _ h => h) (by decide) (by decide) (runx_V (As := [.int t]) (rest := []) C hP hD hS ct_1 (x_traySeen l D ty h0 rd ho nw tr ts im t (.null) hl9) kV_PinchedBill_236 0 rfl rfl rfl rfl hl.1 rfl (nle rfl) d_X8_seenAt_2 ⟨by decide, by decide, by decide, by decide⟩)
set_option maxHeartbeats 4000000 in
set_option maxRecDepth 100000 in
theorem p_ask (l : Launch) (D : va_G) (ty : Nat → ClassId) (h0 : Nat) (rd : Nat) (ho : Nat) (nw : Nat) (tr : Nat) (ts : Nat) (im : Nat) (t : Int32) (hl9 : l.stackTraces = false) : CX l D ty ⟨"PinchedBill", "ask", "(I)I"⟩ prog_1_method_38_code 8 (some .int) 9 149 2 12 [.ref h0, .int t] [(h0, eO 8 [.ref rd, .ref ho, .ref nw, .ref tr, .ref ts, .ref im, .null]), (ts, eQ (ty 4) 4 (fun _ => none))] QN (fun E => (E = "java/util/NoSuchElementException" ∧ ¬ (¬ t < 0 ∧ t < 4)) ∨ (E = "java/lang/IllegalStateException" ∧ (¬ t < 0 ∧ t < 4))) := by
  refine CX_of (by decide) ?_
  intro p e s m below meth c A C hnt hP hD hS
  obtain ⟨⟨hx, hb, hml, hown, hts⟩, hr, hlocks, hnm, hK, hE, hA, hZ⟩ := id C
  refine startW [.ref h0, .int t] 8 (nle rfl) (lv := [(0, .ref h0), (1, .int t)]) rfl (fun ls hl => ?_)
  refine lv_aload_n hx hb d_X8_ask_0 rfl (lv_at hl 0 rfl) ?_
  refine lv_iload_n hx hb d_X8_ask_1 rfl (lv_at hl 1 rfl) ?_
  have ct_1 : Cut [(h0, eO 8 [.ref rd, .ref ho, .ref nw, .ref tr, .ref ts, .ref im, .null]), (ts, eQ (ty 4) 4 (fun _ => none))] [(h0, eO 8 [.ref rd, .ref ho, .ref nw, .ref tr, .ref ts, .ref im, .null]), (ts, eQ (ty 4) 4 (fun _ => none))] [] [0, 1] [] := ⟨rfl, rfl, rfl, rfl, by decide⟩
  exact contx_N C hnt hP hD hS ct_1 (fun _ h => h) (by decide) (by decide) (runx_V (As := [.int t]) (rest := []) C hP hD hS ct_1 (x_traySeen l D ty h0 rd ho nw tr ts im t (.null) hl9) kV_PinchedBill_236 0 rfl rfl rfl rfl hl.1 rfl (nle rfl) d_X8_ask_2 ⟨by decide, by decide, by decide, by decide⟩)
set_option maxHeartbeats 4000000 in
set_option maxRecDepth 100000 in
theorem p_write (l : Launch) (D : va_G) (ty : Nat → ClassId) (h0 : Nat) (rd : Nat) (ho : Nat) (nw : Nat) (tr : Nat) (ts : Nat) (im : Nat) (t : Int32) (pl : Int32) (vv : Int64) (hl9 : l.stackTraces = false) : CX l D ty ⟨"PinchedBill", "write", "(IIJ)J"⟩ prog_1_method_44_code 6 (some .long) 8 124 2 12 [.ref h0, .int t, .int pl, .long vv] [(h0, eO 8 [.ref rd, .ref ho, .ref nw, .ref tr, .ref ts, .ref im, .null]), (ts, eQ (ty 4) 4 (fun _ => none))] QN (fun E => (E = "java/util/NoSuchElementException" ∧ ¬ (¬ t < 0 ∧ t < 4)) ∨ (E = "java/lang/IllegalStateException" ∧ (¬ t < 0 ∧ t < 4))) := by
  refine CX_of (by decide) ?_
  intro p e s m below meth c A C hnt hP hD hS
  obtain ⟨⟨hx, hb, hml, hown, hts⟩, hr, hlocks, hnm, hK, hE, hA, hZ⟩ := id C
  refine startW [.ref h0, .int t, .int pl, .long vv] 6 (nle rfl) (lv := [(0, .ref h0), (1, .int t), (2, .int pl), (3, .long vv)]) rfl (fun ls hl => ?_)
  refine lv_aload_n hx hb d_X8_write_0 rfl (lv_at hl 0 rfl) ?_
  refine lv_iload_n hx hb d_X8_write_1 rfl (lv_at hl 1 rfl) ?_
  have ct_1 : Cut [(h0, eO 8 [.ref rd, .ref ho, .ref nw, .ref tr, .ref ts, .ref im, .null]), (ts, eQ (ty 4) 4 (fun _ => none))] [(h0, eO 8 [.ref rd, .ref ho, .ref nw, .ref tr, .ref ts, .ref im, .null]), (ts, eQ (ty 4) 4 (fun _ => none))] [] [0, 1] [] := ⟨rfl, rfl, rfl, rfl, by decide⟩
  exact contx_N C hnt hP hD hS ct_1 (fun _ h => h) (by decide) (by decide) (runx_V (As := [.int t]) (rest := []) C hP hD hS ct_1 (x_trayThere l D ty h0 rd ho nw tr ts im t (.null) hl9) kV_PinchedBill_145 0 rfl rfl rfl rfl hl.1 rfl (nle rfl) d_X8_write_2 ⟨by decide, by decide, by decide, by decide⟩)
set_option maxHeartbeats 4000000 in
set_option maxRecDepth 100000 in
theorem p_copy (l : Launch) (D : va_G) (ty : Nat → ClassId) (h0 : Nat) (rd : Nat) (ho : Nat) (nw : Nat) (tr : Nat) (ts : Nat) (im : Nat) (t : Int32) (b : Int32) (hl9 : l.stackTraces = false) : CX l D ty ⟨"PinchedBill", "copy", "(II)I"⟩ prog_1_method_45_code 4 (some .int) 8 124 2 12 [.ref h0, .int t, .int b] [(h0, eO 8 [.ref rd, .ref ho, .ref nw, .ref tr, .ref ts, .ref im, .null]), (ts, eQ (ty 4) 4 (fun _ => none))] QN (fun E => (E = "java/util/NoSuchElementException" ∧ ¬ (¬ t < 0 ∧ t < 4)) ∨ (E = "java/lang/IllegalStateException" ∧ (¬ t < 0 ∧ t < 4))) := by
  refine CX_of (by decide) ?_
  intro p e s m below meth c A C hnt hP hD hS
  obtain ⟨⟨hx, hb, hml, hown, hts⟩, hr, hlocks, hnm, hK, hE, hA, hZ⟩ := id C
  refine startW [.ref h0, .int t, .int b] 4 (nle rfl) (lv := [(0, .ref h0), (1, .int t), (2, .int b)]) rfl (fun ls hl => ?_)
  refine lv_aload_n hx hb d_X8_copy_0 rfl (lv_at hl 0 rfl) ?_
  refine lv_iload_n hx hb d_X8_copy_1 rfl (lv_at hl 1 rfl) ?_
  have ct_1 : Cut [(h0, eO 8 [.ref rd, .ref ho, .ref nw, .ref tr, .ref ts, .ref im, .null]), (ts, eQ (ty 4) 4 (fun _ => none))] [(h0, eO 8 [.ref rd, .ref ho, .ref nw, .ref tr, .ref ts, .ref im, .null]), (ts, eQ (ty 4) 4 (fun _ => none))] [] [0, 1] [] := ⟨rfl, rfl, rfl, rfl, by decide⟩
  exact contx_N C hnt hP hD hS ct_1 (fun _ h => h) (by decide) (by decide) (runx_V (As := [.int t]) (rest := []) C hP hD hS ct_1 (x_trayThere l D ty h0 rd ho nw tr ts im t (.null) hl9) kV_PinchedBill_145 0 rfl rfl rfl rfl hl.1 rfl (nle rfl) d_X8_copy_2 ⟨by decide, by decide, by decide, by decide⟩)
set_option maxHeartbeats 4000000 in
set_option maxRecDepth 100000 in
theorem p_restore (l : Launch) (D : va_G) (ty : Nat → ClassId) (h0 : Nat) (rd : Nat) (ho : Nat) (nw : Nat) (tr : Nat) (ts : Nat) (im : Nat) (t : Int32) (hl9 : l.stackTraces = false) : CX l D ty ⟨"PinchedBill", "restore", "(I)V"⟩ prog_1_method_47_code 3 none 7 102 2 12 [.ref h0, .int t] [(h0, eO 8 [.ref rd, .ref ho, .ref nw, .ref tr, .ref ts, .ref im, .null]), (im, eQ (ty 5) 3 (fun _ => none))] QN (fun E => (E = "java/util/NoSuchElementException" ∧ ¬ (¬ t < 0 ∧ t < 3)) ∨ (E = "java/lang/IllegalStateException" ∧ (¬ t < 0 ∧ t < 3))) := by
  refine CX_of (by decide) ?_
  intro p e s m below meth c A C hnt hP hD hS
  obtain ⟨⟨hx, hb, hml, hown, hts⟩, hr, hlocks, hnm, hK, hE, hA, hZ⟩ := id C
  refine startW [.ref h0, .int t] 3 (nle rfl) (lv := [(0, .ref h0), (1, .int t)]) rfl (fun ls hl => ?_)
  refine lv_iload_n hx hb d_X8_restore_0 rfl (lv_at hl 1 rfl) ?_
  have ct_1 : Cut [(h0, eO 8 [.ref rd, .ref ho, .ref nw, .ref tr, .ref ts, .ref im, .null]), (im, eQ (ty 5) 3 (fun _ => none))] [] [(h0, eO 8 [.ref rd, .ref ho, .ref nw, .ref tr, .ref ts, .ref im, .null]), (im, eQ (ty 5) 3 (fun _ => none))] [] [0, 1] := ⟨rfl, rfl, rfl, rfl, by decide⟩
  refine contx_V C hnt hP hD hS ct_1 (fun E h => Or.inl h) (by decide) (by decide) (runx_S (As := [.int t]) (rest := []) C hP hD hS ct_1 (x_image l D ty t hl9) kS_PinchedBill_298 rfl hl.1 rfl (nle rfl) d_X8_restore_1 ⟨by decide, by decide, by decide, by decide⟩) (fun w_4 H locs hw_2 hP hD hS => ?_)
  obtain ⟨ht_5, rfl⟩ := hw_2
  have hP : va_P D vwCl [(h0, eO 8 [.ref rd, .ref ho, .ref nw, .ref tr, .ref ts, .ref im, .null]), (im, eQ (ty 5) 3 (fun _ => none))] H := hP
  have hD : va_D A [(h0, eO 8 [.ref rd, .ref ho, .ref nw, .ref tr, .ref ts, .ref im, .null]), (im, eQ (ty 5) 3 (fun _ => none))] := hD
  have hid := ht_5
  obtain ⟨ta, ha_6, rfl⟩ := idx_of (M := 3) (k := 3) rfl (by omega) hid
  refine lv_aload_n hx hb d_X8_restore_4 rfl (lv_at hl 0 rfl) ?_
  refine r_get (v := .ref im) C hP 0 rfl rfl lay_X8 5 (by decide) k_325 rfl d_X8_restore_5 ?_
  refine lv_iload_n hx hb d_X8_restore_8 rfl (lv_at hl 1 rfl) ?_
  refine r_aald (v := .null) C hP 1 5 rfl rfl ta rfl (by omega) (by decide) rfl d_X8_restore_9 ?_
  refine lv_astore_nN (lv' := [(2, .null), (0, .ref h0), (1, .int (nI ta))]) hx hb d_X8_restore_10 rfl hl (by decide) rfl (fun ls hl => ?_)
  refine lv_aload_nN hx hb d_X8_restore_11 rfl (lv_at hl 0 rfl) ?_
  refine lv_ifnonnullN hx hb d_X8_restore_12 ?_
  exact r_throw (text := "no image was made") C hnt hl9 hS (by decide +kernel) (by decide +kernel) k_1079 k_139 (by decide +kernel) (by decide +kernel) (all_in at_PinchedBill_310) (all_eq bd_PinchedBill_310) (List.all_eq_true.mp gt_PinchedBill_306_310) hl.1 d_X8_restore_15 d_X8_restore_18 d_X8_restore_19 d_X8_restore_22 d_X8_restore_25 ⟨by decide, nle rfl, by decide, by decide⟩ (Or.inr ⟨rfl, hid⟩) (by decide) (by decide)
set_option maxHeartbeats 4000000 in
set_option maxRecDepth 100000 in
theorem c_hcopy (l : Launch) (D : va_G) (ty : Nat → ClassId) (h0 : Nat) (a1 : Nat) (a2 : Nat) (a3 : Nat) (h1 : Nat) (b1 : Nat) (b2 : Nat) (b3 : Nat) : CC l D ty ⟨"PinchedBill$House", "copyFrom", "(LPinchedBill$House;)V"⟩ prog_2_method_3_code 2 none 1 40 0 0 [.ref h0, .ref h1] [(h0, eO 0 [.int 0, .int 1, .int 0, .int 0, .int 0, .int 0, .int 0, .int 0, .int 0, .int 0, .ref a1, .ref a2, .ref a3]), (a1, eI (ty 0) 24 (fun _ => 0)), (a2, eI (ty 0) 8 (fun _ => 0)), (a3, eI (ty 0) 900 (fun _ => 0)), (h1, eO 0 [.int 0, .int 1, .int 0, .int 0, .int 0, .int 0, .int 0, .int 0, .int 0, .int 0, .ref b1, .ref b2, .ref b3]), (b1, eI (ty 0) 24 (fun _ => 0)), (b2, eI (ty 0) 8 (fun _ => 0)), (b3, eI (ty 0) 900 (fun _ => 0))] (QV D ty (fun (w : va_W) => w = [])) := by
  refine CC_of (by decide) ?_
  intro p e s m below meth c A C hP hD hS
  obtain ⟨⟨hx, hb, hml, hown, hts⟩, hr, hlocks, hnm, hK, hE, hA, hZ⟩ := id C
  refine startW [.ref h0, .ref h1] 2 (nle rfl) (lv := [(0, .ref h0), (1, .ref h1)]) rfl (fun ls hl => ?_)
  refine lv_aload_n hx hb d_X0_copyFrom_0 rfl (lv_at hl 0 rfl) ?_
  refine lv_aload_n hx hb d_X0_copyFrom_1 rfl (lv_at hl 1 rfl) ?_
  refine r_get (v := .int 0) C hP 4 rfl rfl lay_X0 0 (by decide) k_163 rfl d_X0_copyFrom_2 ?_
  refine r_put (w := [(h0, eO 0 [.int 0, .int 1, .int 0, .int 0, .int 0, .int 0, .int 0, .int 0, .int 0, .int 0, .ref a1, .ref a2, .ref a3]), (a1, eI (ty 0) 24 (fun _ => 0)), (a2, eI (ty 0) 8 (fun _ => 0)), (a3, eI (ty 0) 900 (fun _ => 0)), (h1, eO 0 [.int 0, .int 1, .int 0, .int 0, .int 0, .int 0, .int 0, .int 0, .int 0, .int 0, .ref b1, .ref b2, .ref b3]), (b1, eI (ty 0) 24 (fun _ => 0)), (b2, eI (ty 0) 8 (fun _ => 0)), (b3, eI (ty 0) 900 (fun _ => 0))]) C hP hD hS 0 rfl rfl lay_X0 tok_X0 nmo_X0 0 (by decide) k_163 rfl rfl rfl (nle rfl) rfl d_X0_copyFrom_5 (fun H locs hP hD hS => ?_)
  refine lv_aload_n hx hb d_X0_copyFrom_8 rfl (lv_at hl 0 rfl) ?_
  refine lv_aload_n hx hb d_X0_copyFrom_9 rfl (lv_at hl 1 rfl) ?_
  refine r_get (v := .int 1) C hP 4 rfl rfl lay_X0 1 (by decide) k_166 rfl d_X0_copyFrom_10 ?_
  refine r_put (w := [(h0, eO 0 [.int 0, .int 1, .int 0, .int 0, .int 0, .int 0, .int 0, .int 0, .int 0, .int 0, .ref a1, .ref a2, .ref a3]), (a1, eI (ty 0) 24 (fun _ => 0)), (a2, eI (ty 0) 8 (fun _ => 0)), (a3, eI (ty 0) 900 (fun _ => 0)), (h1, eO 0 [.int 0, .int 1, .int 0, .int 0, .int 0, .int 0, .int 0, .int 0, .int 0, .int 0, .ref b1, .ref b2, .ref b3]), (b1, eI (ty 0) 24 (fun _ => 0)), (b2, eI (ty 0) 8 (fun _ => 0)), (b3, eI (ty 0) 900 (fun _ => 0))]) C hP hD hS 0 rfl rfl lay_X0 tok_X0 nmo_X0 1 (by decide) k_166 rfl rfl rfl (nle rfl) rfl d_X0_copyFrom_13 (fun H locs hP hD hS => ?_)
  refine lv_aload_n hx hb d_X0_copyFrom_16 rfl (lv_at hl 0 rfl) ?_
  refine lv_aload_n hx hb d_X0_copyFrom_17 rfl (lv_at hl 1 rfl) ?_
  refine r_get (v := .int 0) C hP 4 rfl rfl lay_X0 2 (by decide) k_170 rfl d_X0_copyFrom_18 ?_
  refine r_put (w := [(h0, eO 0 [.int 0, .int 1, .int 0, .int 0, .int 0, .int 0, .int 0, .int 0, .int 0, .int 0, .ref a1, .ref a2, .ref a3]), (a1, eI (ty 0) 24 (fun _ => 0)), (a2, eI (ty 0) 8 (fun _ => 0)), (a3, eI (ty 0) 900 (fun _ => 0)), (h1, eO 0 [.int 0, .int 1, .int 0, .int 0, .int 0, .int 0, .int 0, .int 0, .int 0, .int 0, .ref b1, .ref b2, .ref b3]), (b1, eI (ty 0) 24 (fun _ => 0)), (b2, eI (ty 0) 8 (fun _ => 0)), (b3, eI (ty 0) 900 (fun _ => 0))]) C hP hD hS 0 rfl rfl lay_X0 tok_X0 nmo_X0 2 (by decide) k_170 rfl rfl rfl (nle rfl) rfl d_X0_copyFrom_21 (fun H locs hP hD hS => ?_)
  refine lv_aload_n hx hb d_X0_copyFrom_24 rfl (lv_at hl 0 rfl) ?_
  refine lv_aload_n hx hb d_X0_copyFrom_25 rfl (lv_at hl 1 rfl) ?_
  refine r_get (v := .int 0) C hP 4 rfl rfl lay_X0 3 (by decide) k_176 rfl d_X0_copyFrom_26 ?_
  refine r_put (w := [(h0, eO 0 [.int 0, .int 1, .int 0, .int 0, .int 0, .int 0, .int 0, .int 0, .int 0, .int 0, .ref a1, .ref a2, .ref a3]), (a1, eI (ty 0) 24 (fun _ => 0)), (a2, eI (ty 0) 8 (fun _ => 0)), (a3, eI (ty 0) 900 (fun _ => 0)), (h1, eO 0 [.int 0, .int 1, .int 0, .int 0, .int 0, .int 0, .int 0, .int 0, .int 0, .int 0, .ref b1, .ref b2, .ref b3]), (b1, eI (ty 0) 24 (fun _ => 0)), (b2, eI (ty 0) 8 (fun _ => 0)), (b3, eI (ty 0) 900 (fun _ => 0))]) C hP hD hS 0 rfl rfl lay_X0 tok_X0 nmo_X0 3 (by decide) k_176 rfl rfl rfl (nle rfl) rfl d_X0_copyFrom_29 (fun H locs hP hD hS => ?_)
  refine lv_aload_n hx hb d_X0_copyFrom_32 rfl (lv_at hl 0 rfl) ?_
  refine lv_aload_n hx hb d_X0_copyFrom_33 rfl (lv_at hl 1 rfl) ?_
  refine r_get (v := .int 0) C hP 4 rfl rfl lay_X0 4 (by decide) k_179 rfl d_X0_copyFrom_34 ?_
  refine r_put (w := [(h0, eO 0 [.int 0, .int 1, .int 0, .int 0, .int 0, .int 0, .int 0, .int 0, .int 0, .int 0, .ref a1, .ref a2, .ref a3]), (a1, eI (ty 0) 24 (fun _ => 0)), (a2, eI (ty 0) 8 (fun _ => 0)), (a3, eI (ty 0) 900 (fun _ => 0)), (h1, eO 0 [.int 0, .int 1, .int 0, .int 0, .int 0, .int 0, .int 0, .int 0, .int 0, .int 0, .ref b1, .ref b2, .ref b3]), (b1, eI (ty 0) 24 (fun _ => 0)), (b2, eI (ty 0) 8 (fun _ => 0)), (b3, eI (ty 0) 900 (fun _ => 0))]) C hP hD hS 0 rfl rfl lay_X0 tok_X0 nmo_X0 4 (by decide) k_179 rfl rfl rfl (nle rfl) rfl d_X0_copyFrom_37 (fun H locs hP hD hS => ?_)
  refine lv_aload_n hx hb d_X0_copyFrom_40 rfl (lv_at hl 0 rfl) ?_
  refine lv_aload_n hx hb d_X0_copyFrom_41 rfl (lv_at hl 1 rfl) ?_
  refine r_get (v := .int 0) C hP 4 rfl rfl lay_X0 5 (by decide) k_181 rfl d_X0_copyFrom_42 ?_
  refine r_put (w := [(h0, eO 0 [.int 0, .int 1, .int 0, .int 0, .int 0, .int 0, .int 0, .int 0, .int 0, .int 0, .ref a1, .ref a2, .ref a3]), (a1, eI (ty 0) 24 (fun _ => 0)), (a2, eI (ty 0) 8 (fun _ => 0)), (a3, eI (ty 0) 900 (fun _ => 0)), (h1, eO 0 [.int 0, .int 1, .int 0, .int 0, .int 0, .int 0, .int 0, .int 0, .int 0, .int 0, .ref b1, .ref b2, .ref b3]), (b1, eI (ty 0) 24 (fun _ => 0)), (b2, eI (ty 0) 8 (fun _ => 0)), (b3, eI (ty 0) 900 (fun _ => 0))]) C hP hD hS 0 rfl rfl lay_X0 tok_X0 nmo_X0 5 (by decide) k_181 rfl rfl rfl (nle rfl) rfl d_X0_copyFrom_45 (fun H locs hP hD hS => ?_)
  refine lv_aload_n hx hb d_X0_copyFrom_48 rfl (lv_at hl 0 rfl) ?_
  refine lv_aload_n hx hb d_X0_copyFrom_49 rfl (lv_at hl 1 rfl) ?_
  refine r_get (v := .int 0) C hP 4 rfl rfl lay_X0 6 (by decide) k_183 rfl d_X0_copyFrom_50 ?_
  refine r_put (w := [(h0, eO 0 [.int 0, .int 1, .int 0, .int 0, .int 0, .int 0, .int 0, .int 0, .int 0, .int 0, .ref a1, .ref a2, .ref a3]), (a1, eI (ty 0) 24 (fun _ => 0)), (a2, eI (ty 0) 8 (fun _ => 0)), (a3, eI (ty 0) 900 (fun _ => 0)), (h1, eO 0 [.int 0, .int 1, .int 0, .int 0, .int 0, .int 0, .int 0, .int 0, .int 0, .int 0, .ref b1, .ref b2, .ref b3]), (b1, eI (ty 0) 24 (fun _ => 0)), (b2, eI (ty 0) 8 (fun _ => 0)), (b3, eI (ty 0) 900 (fun _ => 0))]) C hP hD hS 0 rfl rfl lay_X0 tok_X0 nmo_X0 6 (by decide) k_183 rfl rfl rfl (nle rfl) rfl d_X0_copyFrom_53 (fun H locs hP hD hS => ?_)
  refine lv_aload_n hx hb d_X0_copyFrom_56 rfl (lv_at hl 0 rfl) ?_
  refine lv_aload_n hx hb d_X0_copyFrom_57 rfl (lv_at hl 1 rfl) ?_
  refine r_get (v := .int 0) C hP 4 rfl rfl lay_X0 7 (by decide) k_186 rfl d_X0_copyFrom_58 ?_
  refine r_put (w := [(h0, eO 0 [.int 0, .int 1, .int 0, .int 0, .int 0, .int 0, .int 0, .int 0, .int 0, .int 0, .ref a1, .ref a2, .ref a3]), (a1, eI (ty 0) 24 (fun _ => 0)), (a2, eI (ty 0) 8 (fun _ => 0)), (a3, eI (ty 0) 900 (fun _ => 0)), (h1, eO 0 [.int 0, .int 1, .int 0, .int 0, .int 0, .int 0, .int 0, .int 0, .int 0, .int 0, .ref b1, .ref b2, .ref b3]), (b1, eI (ty 0) 24 (fun _ => 0)), (b2, eI (ty 0) 8 (fun _ => 0)), (b3, eI (ty 0) 900 (fun _ => 0))]) C hP hD hS 0 rfl rfl lay_X0 tok_X0 nmo_X0 7 (by decide) k_186 rfl rfl rfl (nle rfl) rfl d_X0_copyFrom_61 (fun H locs hP hD hS => ?_)
  refine lv_aload_n hx hb d_X0_copyFrom_64 rfl (lv_at hl 0 rfl) ?_
  refine lv_aload_n hx hb d_X0_copyFrom_65 rfl (lv_at hl 1 rfl) ?_
  refine r_get (v := .int 0) C hP 4 rfl rfl lay_X0 8 (by decide) k_189 rfl d_X0_copyFrom_66 ?_
  refine r_put (w := [(h0, eO 0 [.int 0, .int 1, .int 0, .int 0, .int 0, .int 0, .int 0, .int 0, .int 0, .int 0, .ref a1, .ref a2, .ref a3]), (a1, eI (ty 0) 24 (fun _ => 0)), (a2, eI (ty 0) 8 (fun _ => 0)), (a3, eI (ty 0) 900 (fun _ => 0)), (h1, eO 0 [.int 0, .int 1, .int 0, .int 0, .int 0, .int 0, .int 0, .int 0, .int 0, .int 0, .ref b1, .ref b2, .ref b3]), (b1, eI (ty 0) 24 (fun _ => 0)), (b2, eI (ty 0) 8 (fun _ => 0)), (b3, eI (ty 0) 900 (fun _ => 0))]) C hP hD hS 0 rfl rfl lay_X0 tok_X0 nmo_X0 8 (by decide) k_189 rfl rfl rfl (nle rfl) rfl d_X0_copyFrom_69 (fun H locs hP hD hS => ?_)
  refine lv_aload_n hx hb d_X0_copyFrom_72 rfl (lv_at hl 0 rfl) ?_
  refine lv_aload_n hx hb d_X0_copyFrom_73 rfl (lv_at hl 1 rfl) ?_
  refine r_get (v := .int 0) C hP 4 rfl rfl lay_X0 9 (by decide) k_192 rfl d_X0_copyFrom_74 ?_
  refine r_put (w := [(h0, eO 0 [.int 0, .int 1, .int 0, .int 0, .int 0, .int 0, .int 0, .int 0, .int 0, .int 0, .ref a1, .ref a2, .ref a3]), (a1, eI (ty 0) 24 (fun _ => 0)), (a2, eI (ty 0) 8 (fun _ => 0)), (a3, eI (ty 0) 900 (fun _ => 0)), (h1, eO 0 [.int 0, .int 1, .int 0, .int 0, .int 0, .int 0, .int 0, .int 0, .int 0, .int 0, .ref b1, .ref b2, .ref b3]), (b1, eI (ty 0) 24 (fun _ => 0)), (b2, eI (ty 0) 8 (fun _ => 0)), (b3, eI (ty 0) 900 (fun _ => 0))]) C hP hD hS 0 rfl rfl lay_X0 tok_X0 nmo_X0 9 (by decide) k_192 rfl rfl rfl (nle rfl) rfl d_X0_copyFrom_77 (fun H locs hP hD hS => ?_)
  refine lv_aload_n hx hb d_X0_copyFrom_80 rfl (lv_at hl 1 rfl) ?_
  refine r_get (v := .ref b1) C hP 4 rfl rfl lay_X0 10 (by decide) k_195 rfl d_X0_copyFrom_81 ?_
  refine lv_iconst (v := 0) hx hb d_X0_copyFrom_84 (by decide) ?_
  refine lv_aload_n hx hb d_X0_copyFrom_85 rfl (lv_at hl 0 rfl) ?_
  refine r_get (v := .ref a1) C hP 0 rfl rfl lay_X0 10 (by decide) k_195 rfl d_X0_copyFrom_86 ?_
  refine lv_iconst (v := 0) hx hb d_X0_copyFrom_89 (by decide) ?_
  refine lv_aload_n hx hb d_X0_copyFrom_90 rfl (lv_at hl 0 rfl) ?_
  refine r_get (v := .ref a1) C hP 0 rfl rfl lay_X0 10 (by decide) k_195 rfl d_X0_copyFrom_91 ?_
  refine r_alen (v := 24) C hP 1 0 rfl rfl rfl d_X0_copyFrom_94 ?_
  refine va_copyi hx hb (hml.trans hl.1.symm) hown (hts _ k_968) (hts _ k_544) (hts _ k_543) (hts _ k_134) hK hP hD hS 5 1 0 0 rfl rfl rfl rfl rfl (by decide) (by decide) (by decide) (by decide) (by decide) (fun _ _ => rfl) (by decide) (nle rfl) d_X0_copyFrom_95 (fun H locs hP hD hS => ?_)
  have hP : va_P D vwCl [(h0, eO 0 [.int 0, .int 1, .int 0, .int 0, .int 0, .int 0, .int 0, .int 0, .int 0, .int 0, .ref a1, .ref a2, .ref a3]), (a1, eI (ty 0) 24 (va_cpy (fun _ => 0) (fun _ => 0) 0 0 24)), (a2, eI (ty 0) 8 (fun _ => 0)), (a3, eI (ty 0) 900 (fun _ => 0)), (h1, eO 0 [.int 0, .int 1, .int 0, .int 0, .int 0, .int 0, .int 0, .int 0, .int 0, .int 0, .ref b1, .ref b2, .ref b3]), (b1, eI (ty 0) 24 (fun _ => 0)), (b2, eI (ty 0) 8 (fun _ => 0)), (b3, eI (ty 0) 900 (fun _ => 0))] H := hP
  have hD : va_D A [(h0, eO 0 [.int 0, .int 1, .int 0, .int 0, .int 0, .int 0, .int 0, .int 0, .int 0, .int 0, .ref a1, .ref a2, .ref a3]), (a1, eI (ty 0) 24 (va_cpy (fun _ => 0) (fun _ => 0) 0 0 24)), (a2, eI (ty 0) 8 (fun _ => 0)), (a3, eI (ty 0) 900 (fun _ => 0)), (h1, eO 0 [.int 0, .int 1, .int 0, .int 0, .int 0, .int 0, .int 0, .int 0, .int 0, .int 0, .ref b1, .ref b2, .ref b3]), (b1, eI (ty 0) 24 (fun _ => 0)), (b2, eI (ty 0) 8 (fun _ => 0)), (b3, eI (ty 0) 900 (fun _ => 0))] := hD
  refine lv_aload_n hx hb d_X0_copyFrom_98 rfl (lv_at hl 1 rfl) ?_
  refine r_get (v := .ref b2) C hP 4 rfl rfl lay_X0 11 (by decide) k_196 rfl d_X0_copyFrom_99 ?_
  refine lv_iconst (v := 0) hx hb d_X0_copyFrom_102 (by decide) ?_
  refine lv_aload_n hx hb d_X0_copyFrom_103 rfl (lv_at hl 0 rfl) ?_
  refine r_get (v := .ref a2) C hP 0 rfl rfl lay_X0 11 (by decide) k_196 rfl d_X0_copyFrom_104 ?_
  refine lv_iconst (v := 0) hx hb d_X0_copyFrom_107 (by decide) ?_
  refine lv_aload_n hx hb d_X0_copyFrom_108 rfl (lv_at hl 0 rfl) ?_
  refine r_get (v := .ref a2) C hP 0 rfl rfl lay_X0 11 (by decide) k_196 rfl d_X0_copyFrom_109 ?_
  refine r_alen (v := 8) C hP 2 0 rfl rfl rfl d_X0_copyFrom_112 ?_
  refine va_copyi hx hb (hml.trans hl.1.symm) hown (hts _ k_968) (hts _ k_544) (hts _ k_543) (hts _ k_134) hK hP hD hS 6 2 0 0 rfl rfl rfl rfl rfl (by decide) (by decide) (by decide) (by decide) (by decide) (fun _ _ => rfl) (by decide) (nle rfl) d_X0_copyFrom_113 (fun H locs hP hD hS => ?_)
  have hP : va_P D vwCl [(h0, eO 0 [.int 0, .int 1, .int 0, .int 0, .int 0, .int 0, .int 0, .int 0, .int 0, .int 0, .ref a1, .ref a2, .ref a3]), (a1, eI (ty 0) 24 (va_cpy (fun _ => 0) (fun _ => 0) 0 0 24)), (a2, eI (ty 0) 8 (va_cpy (fun _ => 0) (fun _ => 0) 0 0 8)), (a3, eI (ty 0) 900 (fun _ => 0)), (h1, eO 0 [.int 0, .int 1, .int 0, .int 0, .int 0, .int 0, .int 0, .int 0, .int 0, .int 0, .ref b1, .ref b2, .ref b3]), (b1, eI (ty 0) 24 (fun _ => 0)), (b2, eI (ty 0) 8 (fun _ => 0)), (b3, eI (ty 0) 900 (fun _ => 0))] H := hP
  have hD : va_D A [(h0, eO 0 [.int 0, .int 1, .int 0, .int 0, .int 0, .int 0, .int 0, .int 0, .int 0, .int 0, .ref a1, .ref a2, .ref a3]), (a1, eI (ty 0) 24 (va_cpy (fun _ => 0) (fun _ => 0) 0 0 24)), (a2, eI (ty 0) 8 (va_cpy (fun _ => 0) (fun _ => 0) 0 0 8)), (a3, eI (ty 0) 900 (fun _ => 0)), (h1, eO 0 [.int 0, .int 1, .int 0, .int 0, .int 0, .int 0, .int 0, .int 0, .int 0, .int 0, .ref b1, .ref b2, .ref b3]), (b1, eI (ty 0) 24 (fun _ => 0)), (b2, eI (ty 0) 8 (fun _ => 0)), (b3, eI (ty 0) 900 (fun _ => 0))] := hD
  refine lv_aload_n hx hb d_X0_copyFrom_116 rfl (lv_at hl 1 rfl) ?_
  refine r_get (v := .ref b3) C hP 4 rfl rfl lay_X0 12 (by decide) k_197 rfl d_X0_copyFrom_117 ?_
  refine lv_iconst (v := 0) hx hb d_X0_copyFrom_120 (by decide) ?_
  refine lv_aload_n hx hb d_X0_copyFrom_121 rfl (lv_at hl 0 rfl) ?_
  refine r_get (v := .ref a3) C hP 0 rfl rfl lay_X0 12 (by decide) k_197 rfl d_X0_copyFrom_122 ?_
  refine lv_iconst (v := 0) hx hb d_X0_copyFrom_125 (by decide) ?_
  refine lv_aload_n hx hb d_X0_copyFrom_126 rfl (lv_at hl 0 rfl) ?_
  refine r_get (v := .ref a3) C hP 0 rfl rfl lay_X0 12 (by decide) k_197 rfl d_X0_copyFrom_127 ?_
  refine r_alen (v := 900) C hP 3 0 rfl rfl rfl d_X0_copyFrom_130 ?_
  refine va_copyi hx hb (hml.trans hl.1.symm) hown (hts _ k_968) (hts _ k_544) (hts _ k_543) (hts _ k_134) hK hP hD hS 7 3 0 0 rfl rfl rfl rfl rfl (by decide) (by decide) (by decide) (by decide) (by decide) (fun _ _ => rfl) (by decide) (nle rfl) d_X0_copyFrom_131 (fun H locs hP hD hS => ?_)
  have hP : va_P D vwCl [(h0, eO 0 [.int 0, .int 1, .int 0, .int 0, .int 0, .int 0, .int 0, .int 0, .int 0, .int 0, .ref a1, .ref a2, .ref a3]), (a1, eI (ty 0) 24 (va_cpy (fun _ => 0) (fun _ => 0) 0 0 24)), (a2, eI (ty 0) 8 (va_cpy (fun _ => 0) (fun _ => 0) 0 0 8)), (a3, eI (ty 0) 900 (va_cpy (fun _ => 0) (fun _ => 0) 0 0 900)), (h1, eO 0 [.int 0, .int 1, .int 0, .int 0, .int 0, .int 0, .int 0, .int 0, .int 0, .int 0, .ref b1, .ref b2, .ref b3]), (b1, eI (ty 0) 24 (fun _ => 0)), (b2, eI (ty 0) 8 (fun _ => 0)), (b3, eI (ty 0) 900 (fun _ => 0))] H := hP
  have hD : va_D A [(h0, eO 0 [.int 0, .int 1, .int 0, .int 0, .int 0, .int 0, .int 0, .int 0, .int 0, .int 0, .ref a1, .ref a2, .ref a3]), (a1, eI (ty 0) 24 (va_cpy (fun _ => 0) (fun _ => 0) 0 0 24)), (a2, eI (ty 0) 8 (va_cpy (fun _ => 0) (fun _ => 0) 0 0 8)), (a3, eI (ty 0) 900 (va_cpy (fun _ => 0) (fun _ => 0) 0 0 900)), (h1, eO 0 [.int 0, .int 1, .int 0, .int 0, .int 0, .int 0, .int 0, .int 0, .int 0, .int 0, .ref b1, .ref b2, .ref b3]), (b1, eI (ty 0) 24 (fun _ => 0)), (b2, eI (ty 0) 8 (fun _ => 0)), (b3, eI (ty 0) 900 (fun _ => 0))] := hD
  exact ret_V (w := []) C hP hD hS [] rfl rfl rfl (by decide) (by decide) d_X0_copyFrom_134
set_option maxHeartbeats 4000000 in
set_option maxRecDepth 100000 in
theorem c_scopy (l : Launch) (D : va_G) (ty : Nat → ClassId) (h0 : Nat) (a0 : Nat) (a1 : Nat) (a2 : Nat) (a3 : Nat) (h1 : Nat) (b0 : Nat) (b1 : Nat) (b2 : Nat) (b3 : Nat) : CC l D ty ⟨"PinchedBill$Standing", "copyFrom", "(LPinchedBill$Standing;)V"⟩ prog_7_method_6_code 2 none 1 40 0 0 [.ref h0, .ref h1] [(h0, eO 5 [.ref a0, .int 0, .int 0, .ref a1, .ref a2, .ref a3]), (a0, eO 7 [.int 0, .int (-1)]), (a1, eI (ty 0) 10 (fun _ => 0)), (a2, eI (ty 0) 10 (fun _ => 0)), (a3, eI (ty 0) 10 (fun _ => 0)), (h1, eO 5 [.ref b0, .int 0, .int 0, .ref b1, .ref b2, .ref b3]), (b0, eO 7 [.int 0, .int (-1)]), (b1, eI (ty 0) 10 (fun _ => 0)), (b2, eI (ty 0) 10 (fun _ => 0)), (b3, eI (ty 0) 10 (fun _ => 0))] (QV D ty (fun (w : va_W) => w = [])) := by
  refine CC_of (by decide) ?_
  intro p e s m below meth c A C hP hD hS
  obtain ⟨⟨hx, hb, hml, hown, hts⟩, hr, hlocks, hnm, hK, hE, hA, hZ⟩ := id C
  refine startW [.ref h0, .ref h1] 2 (nle rfl) (lv := [(0, .ref h0), (1, .ref h1)]) rfl (fun ls hl => ?_)
  refine lv_aload_n hx hb d_X5_copyFrom_0 rfl (lv_at hl 0 rfl) ?_
  refine r_get (v := .ref a0) C hP 0 rfl rfl lay_X5 0 (by decide) k_294 rfl d_X5_copyFrom_1 ?_
  refine lv_aload_n hx hb d_X5_copyFrom_4 rfl (lv_at hl 1 rfl) ?_
  refine r_get (v := .ref b0) C hP 5 rfl rfl lay_X5 0 (by decide) k_294 rfl d_X5_copyFrom_5 ?_
  refine r_get (v := .int 0) C hP 6 rfl rfl lay_X7 0 (by decide) k_280 rfl d_X5_copyFrom_8 ?_
  refine r_put (w := [(h0, eO 5 [.ref a0, .int 0, .int 0, .ref a1, .ref a2, .ref a3]), (a0, eO 7 [.int 0, .int (-1)]), (a1, eI (ty 0) 10 (fun _ => 0)), (a2, eI (ty 0) 10 (fun _ => 0)), (a3, eI (ty 0) 10 (fun _ => 0)), (h1, eO 5 [.ref b0, .int 0, .int 0, .ref b1, .ref b2, .ref b3]), (b0, eO 7 [.int 0, .int (-1)]), (b1, eI (ty 0) 10 (fun _ => 0)), (b2, eI (ty 0) 10 (fun _ => 0)), (b3, eI (ty 0) 10 (fun _ => 0))]) C hP hD hS 1 rfl rfl lay_X7 tok_X7 nmo_X7 0 (by decide) k_280 rfl rfl rfl (nle rfl) rfl d_X5_copyFrom_11 (fun H locs hP hD hS => ?_)
  refine lv_aload_n hx hb d_X5_copyFrom_14 rfl (lv_at hl 0 rfl) ?_
  refine r_get (v := .ref a0) C hP 0 rfl rfl lay_X5 0 (by decide) k_294 rfl d_X5_copyFrom_15 ?_
  refine lv_aload_n hx hb d_X5_copyFrom_18 rfl (lv_at hl 1 rfl) ?_
  refine r_get (v := .ref b0) C hP 5 rfl rfl lay_X5 0 (by decide) k_294 rfl d_X5_copyFrom_19 ?_
  refine r_get (v := .int (-1)) C hP 6 rfl rfl lay_X7 1 (by decide) k_285 rfl d_X5_copyFrom_22 ?_
  refine r_put (w := [(h0, eO 5 [.ref a0, .int 0, .int 0, .ref a1, .ref a2, .ref a3]), (a0, eO 7 [.int 0, .int (-1)]), (a1, eI (ty 0) 10 (fun _ => 0)), (a2, eI (ty 0) 10 (fun _ => 0)), (a3, eI (ty 0) 10 (fun _ => 0)), (h1, eO 5 [.ref b0, .int 0, .int 0, .ref b1, .ref b2, .ref b3]), (b0, eO 7 [.int 0, .int (-1)]), (b1, eI (ty 0) 10 (fun _ => 0)), (b2, eI (ty 0) 10 (fun _ => 0)), (b3, eI (ty 0) 10 (fun _ => 0))]) C hP hD hS 1 rfl rfl lay_X7 tok_X7 nmo_X7 1 (by decide) k_285 rfl rfl rfl (nle rfl) rfl d_X5_copyFrom_25 (fun H locs hP hD hS => ?_)
  refine lv_aload_n hx hb d_X5_copyFrom_28 rfl (lv_at hl 0 rfl) ?_
  refine lv_aload_n hx hb d_X5_copyFrom_29 rfl (lv_at hl 1 rfl) ?_
  refine r_get (v := .int 0) C hP 5 rfl rfl lay_X5 1 (by decide) k_296 rfl d_X5_copyFrom_30 ?_
  refine r_put (w := [(h0, eO 5 [.ref a0, .int 0, .int 0, .ref a1, .ref a2, .ref a3]), (a0, eO 7 [.int 0, .int (-1)]), (a1, eI (ty 0) 10 (fun _ => 0)), (a2, eI (ty 0) 10 (fun _ => 0)), (a3, eI (ty 0) 10 (fun _ => 0)), (h1, eO 5 [.ref b0, .int 0, .int 0, .ref b1, .ref b2, .ref b3]), (b0, eO 7 [.int 0, .int (-1)]), (b1, eI (ty 0) 10 (fun _ => 0)), (b2, eI (ty 0) 10 (fun _ => 0)), (b3, eI (ty 0) 10 (fun _ => 0))]) C hP hD hS 0 rfl rfl lay_X5 tok_X5 nmo_X5 1 (by decide) k_296 rfl rfl rfl (nle rfl) rfl d_X5_copyFrom_33 (fun H locs hP hD hS => ?_)
  refine lv_aload_n hx hb d_X5_copyFrom_36 rfl (lv_at hl 0 rfl) ?_
  refine lv_aload_n hx hb d_X5_copyFrom_37 rfl (lv_at hl 1 rfl) ?_
  refine r_get (v := .int 0) C hP 5 rfl rfl lay_X5 2 (by decide) k_298 rfl d_X5_copyFrom_38 ?_
  refine r_put (w := [(h0, eO 5 [.ref a0, .int 0, .int 0, .ref a1, .ref a2, .ref a3]), (a0, eO 7 [.int 0, .int (-1)]), (a1, eI (ty 0) 10 (fun _ => 0)), (a2, eI (ty 0) 10 (fun _ => 0)), (a3, eI (ty 0) 10 (fun _ => 0)), (h1, eO 5 [.ref b0, .int 0, .int 0, .ref b1, .ref b2, .ref b3]), (b0, eO 7 [.int 0, .int (-1)]), (b1, eI (ty 0) 10 (fun _ => 0)), (b2, eI (ty 0) 10 (fun _ => 0)), (b3, eI (ty 0) 10 (fun _ => 0))]) C hP hD hS 0 rfl rfl lay_X5 tok_X5 nmo_X5 2 (by decide) k_298 rfl rfl rfl (nle rfl) rfl d_X5_copyFrom_41 (fun H locs hP hD hS => ?_)
  refine lv_aload_n hx hb d_X5_copyFrom_44 rfl (lv_at hl 1 rfl) ?_
  refine r_get (v := .ref b1) C hP 5 rfl rfl lay_X5 3 (by decide) k_300 rfl d_X5_copyFrom_45 ?_
  refine lv_iconst (v := 0) hx hb d_X5_copyFrom_48 (by decide) ?_
  refine lv_aload_n hx hb d_X5_copyFrom_49 rfl (lv_at hl 0 rfl) ?_
  refine r_get (v := .ref a1) C hP 0 rfl rfl lay_X5 3 (by decide) k_300 rfl d_X5_copyFrom_50 ?_
  refine lv_iconst (v := 0) hx hb d_X5_copyFrom_53 (by decide) ?_
  refine lv_bipush (v := 10) hx hb d_X5_copyFrom_54 (by decide) ?_
  refine va_copyi hx hb (hml.trans hl.1.symm) hown (hts _ k_542) (hts _ k_544) (hts _ k_543) (hts _ k_134) hK hP hD hS 7 2 0 0 rfl rfl rfl rfl rfl (by decide) (by decide) (by decide) (by decide) (by decide) (fun _ _ => rfl) (by decide) (nle rfl) d_X5_copyFrom_56 (fun H locs hP hD hS => ?_)
  have hP : va_P D vwCl [(h0, eO 5 [.ref a0, .int 0, .int 0, .ref a1, .ref a2, .ref a3]), (a0, eO 7 [.int 0, .int (-1)]), (a1, eI (ty 0) 10 (va_cpy (fun _ => 0) (fun _ => 0) 0 0 10)), (a2, eI (ty 0) 10 (fun _ => 0)), (a3, eI (ty 0) 10 (fun _ => 0)), (h1, eO 5 [.ref b0, .int 0, .int 0, .ref b1, .ref b2, .ref b3]), (b0, eO 7 [.int 0, .int (-1)]), (b1, eI (ty 0) 10 (fun _ => 0)), (b2, eI (ty 0) 10 (fun _ => 0)), (b3, eI (ty 0) 10 (fun _ => 0))] H := hP
  have hD : va_D A [(h0, eO 5 [.ref a0, .int 0, .int 0, .ref a1, .ref a2, .ref a3]), (a0, eO 7 [.int 0, .int (-1)]), (a1, eI (ty 0) 10 (va_cpy (fun _ => 0) (fun _ => 0) 0 0 10)), (a2, eI (ty 0) 10 (fun _ => 0)), (a3, eI (ty 0) 10 (fun _ => 0)), (h1, eO 5 [.ref b0, .int 0, .int 0, .ref b1, .ref b2, .ref b3]), (b0, eO 7 [.int 0, .int (-1)]), (b1, eI (ty 0) 10 (fun _ => 0)), (b2, eI (ty 0) 10 (fun _ => 0)), (b3, eI (ty 0) 10 (fun _ => 0))] := hD
  refine lv_aload_n hx hb d_X5_copyFrom_59 rfl (lv_at hl 1 rfl) ?_
  refine r_get (v := .ref b2) C hP 5 rfl rfl lay_X5 4 (by decide) k_301 rfl d_X5_copyFrom_60 ?_
  refine lv_iconst (v := 0) hx hb d_X5_copyFrom_63 (by decide) ?_
  refine lv_aload_n hx hb d_X5_copyFrom_64 rfl (lv_at hl 0 rfl) ?_
  refine r_get (v := .ref a2) C hP 0 rfl rfl lay_X5 4 (by decide) k_301 rfl d_X5_copyFrom_65 ?_
  refine lv_iconst (v := 0) hx hb d_X5_copyFrom_68 (by decide) ?_
  refine lv_bipush (v := 10) hx hb d_X5_copyFrom_69 (by decide) ?_
  refine va_copyi hx hb (hml.trans hl.1.symm) hown (hts _ k_542) (hts _ k_544) (hts _ k_543) (hts _ k_134) hK hP hD hS 8 3 0 0 rfl rfl rfl rfl rfl (by decide) (by decide) (by decide) (by decide) (by decide) (fun _ _ => rfl) (by decide) (nle rfl) d_X5_copyFrom_71 (fun H locs hP hD hS => ?_)
  have hP : va_P D vwCl [(h0, eO 5 [.ref a0, .int 0, .int 0, .ref a1, .ref a2, .ref a3]), (a0, eO 7 [.int 0, .int (-1)]), (a1, eI (ty 0) 10 (va_cpy (fun _ => 0) (fun _ => 0) 0 0 10)), (a2, eI (ty 0) 10 (va_cpy (fun _ => 0) (fun _ => 0) 0 0 10)), (a3, eI (ty 0) 10 (fun _ => 0)), (h1, eO 5 [.ref b0, .int 0, .int 0, .ref b1, .ref b2, .ref b3]), (b0, eO 7 [.int 0, .int (-1)]), (b1, eI (ty 0) 10 (fun _ => 0)), (b2, eI (ty 0) 10 (fun _ => 0)), (b3, eI (ty 0) 10 (fun _ => 0))] H := hP
  have hD : va_D A [(h0, eO 5 [.ref a0, .int 0, .int 0, .ref a1, .ref a2, .ref a3]), (a0, eO 7 [.int 0, .int (-1)]), (a1, eI (ty 0) 10 (va_cpy (fun _ => 0) (fun _ => 0) 0 0 10)), (a2, eI (ty 0) 10 (va_cpy (fun _ => 0) (fun _ => 0) 0 0 10)), (a3, eI (ty 0) 10 (fun _ => 0)), (h1, eO 5 [.ref b0, .int 0, .int 0, .ref b1, .ref b2, .ref b3]), (b0, eO 7 [.int 0, .int (-1)]), (b1, eI (ty 0) 10 (fun _ => 0)), (b2, eI (ty 0) 10 (fun _ => 0)), (b3, eI (ty 0) 10 (fun _ => 0))] := hD
  refine lv_aload_n hx hb d_X5_copyFrom_74 rfl (lv_at hl 1 rfl) ?_
  refine r_get (v := .ref b3) C hP 5 rfl rfl lay_X5 5 (by decide) k_302 rfl d_X5_copyFrom_75 ?_
  refine lv_iconst (v := 0) hx hb d_X5_copyFrom_78 (by decide) ?_
  refine lv_aload_n hx hb d_X5_copyFrom_79 rfl (lv_at hl 0 rfl) ?_
  refine r_get (v := .ref a3) C hP 0 rfl rfl lay_X5 5 (by decide) k_302 rfl d_X5_copyFrom_80 ?_
  refine lv_iconst (v := 0) hx hb d_X5_copyFrom_83 (by decide) ?_
  refine lv_bipush (v := 10) hx hb d_X5_copyFrom_84 (by decide) ?_
  refine va_copyi hx hb (hml.trans hl.1.symm) hown (hts _ k_542) (hts _ k_544) (hts _ k_543) (hts _ k_134) hK hP hD hS 9 4 0 0 rfl rfl rfl rfl rfl (by decide) (by decide) (by decide) (by decide) (by decide) (fun _ _ => rfl) (by decide) (nle rfl) d_X5_copyFrom_86 (fun H locs hP hD hS => ?_)
  have hP : va_P D vwCl [(h0, eO 5 [.ref a0, .int 0, .int 0, .ref a1, .ref a2, .ref a3]), (a0, eO 7 [.int 0, .int (-1)]), (a1, eI (ty 0) 10 (va_cpy (fun _ => 0) (fun _ => 0) 0 0 10)), (a2, eI (ty 0) 10 (va_cpy (fun _ => 0) (fun _ => 0) 0 0 10)), (a3, eI (ty 0) 10 (va_cpy (fun _ => 0) (fun _ => 0) 0 0 10)), (h1, eO 5 [.ref b0, .int 0, .int 0, .ref b1, .ref b2, .ref b3]), (b0, eO 7 [.int 0, .int (-1)]), (b1, eI (ty 0) 10 (fun _ => 0)), (b2, eI (ty 0) 10 (fun _ => 0)), (b3, eI (ty 0) 10 (fun _ => 0))] H := hP
  have hD : va_D A [(h0, eO 5 [.ref a0, .int 0, .int 0, .ref a1, .ref a2, .ref a3]), (a0, eO 7 [.int 0, .int (-1)]), (a1, eI (ty 0) 10 (va_cpy (fun _ => 0) (fun _ => 0) 0 0 10)), (a2, eI (ty 0) 10 (va_cpy (fun _ => 0) (fun _ => 0) 0 0 10)), (a3, eI (ty 0) 10 (va_cpy (fun _ => 0) (fun _ => 0) 0 0 10)), (h1, eO 5 [.ref b0, .int 0, .int 0, .ref b1, .ref b2, .ref b3]), (b0, eO 7 [.int 0, .int (-1)]), (b1, eI (ty 0) 10 (fun _ => 0)), (b2, eI (ty 0) 10 (fun _ => 0)), (b3, eI (ty 0) 10 (fun _ => 0))] := hD
  exact ret_V (w := []) C hP hD hS [] rfl rfl rfl (by decide) (by decide) d_X5_copyFrom_89
set_option maxHeartbeats 4000000 in
set_option maxRecDepth 100000 in
theorem c_Image (l : Launch) (D : va_G) (ty : Nat → ClassId) (h0 : Nat) : CC l D ty ⟨"PinchedBill$Image", "<init>", "()V"⟩ prog_3_method_1_code 1 none 3 52 9 983 [.ref h0] [(h0, eO 1 [.null, .null])] (QV D ty (fun (w : va_W) => ∃ (i0 : Nat) (i1 : Nat) (i2 : Nat) (i3 : Nat) (i4 : Nat) (i5 : Nat) (i6 : Nat) (i7 : Nat) (i8 : Nat), w = [(h0, eO 1 [.ref i0, .ref i4]), (i0, eO 0 [.int 0, .int 1, .int 0, .int 0, .int 0, .int 0, .int 0, .int 0, .int 0, .int 0, .ref i1, .ref i2, .ref i3]), (i1, eI (ty 0) 24 (fun _ => 0)), (i2, eI (ty 0) 8 (fun _ => 0)), (i3, eI (ty 0) 900 (fun _ => 0)), (i4, eO 5 [.ref i5, .int 0, .int 0, .ref i6, .ref i7, .ref i8]), (i5, eO 7 [.int 0, .int (-1)]), (i6, eI (ty 0) 10 (fun _ => 0)), (i7, eI (ty 0) 10 (fun _ => 0)), (i8, eI (ty 0) 10 (fun _ => 0))])) := by
  refine CC_of (by decide) ?_
  intro p e s m below meth c A C hP hD hS
  obtain ⟨⟨hx, hb, hml, hown, hts⟩, hr, hlocks, hnm, hK, hE, hA, hZ⟩ := id C
  refine startW [.ref h0] 1 (nle rfl) (lv := [(0, .ref h0)]) rfl (fun ls hl => ?_)
  refine lv_aload_n hx hb d_X1_init_0 rfl (lv_at hl 0 rfl) ?_
  refine r_obj C k_1465 k_149 k_150 hl.1 d_X1_init_1 (by decide) (nle rfl) ?_
  refine lv_aload_n hx hb d_X1_init_4 rfl (lv_at hl 0 rfl) ?_
  refine r_new (ci := 0) C hP hD hS rfl lay_X0 tok_X0 nw_X0 k_1466 k_158 k_119 (by decide) (by decide) d_X1_init_5 (fun q_1 H hP hD hS => ?_)
  have hP : va_P D vwCl [(h0, eO 1 [.null, .null]), (q_1, eO 0 [.int 0, .int 0, .int 0, .int 0, .int 0, .int 0, .int 0, .int 0, .int 0, .int 0, .null, .null, .null])] H := hP
  have hD : va_D A [(h0, eO 1 [.null, .null]), (q_1, eO 0 [.int 0, .int 0, .int 0, .int 0, .int 0, .int 0, .int 0, .int 0, .int 0, .int 0, .null, .null, .null])] := hD
  refine lv_dup hx hb d_X1_init_8 rfl ?_
  have ct_2 : Cut [(h0, eO 1 [.null, .null]), (q_1, eO 0 [.int 0, .int 0, .int 0, .int 0, .int 0, .int 0, .int 0, .int 0, .int 0, .int 0, .null, .null, .null])] [(q_1, eO 0 [.int 0, .int 0, .int 0, .int 0, .int 0, .int 0, .int 0, .int 0, .int 0, .int 0, .null, .null, .null])] [(h0, eO 1 [.null, .null])] [1] [0] := ⟨rfl, rfl, rfl, rfl, by decide⟩
  refine cont_V C hP hD hS ct_2 (run_I (As := []) (rest := [.ref q_1, .ref h0]) C hP hD hS ct_2 (c_House l D ty q_1) kI_PinchedBill_Image_9 rfl hl.1 rfl (nle rfl) d_X1_init_9 ⟨by decide, by decide, by decide, by decide⟩) (fun w_8 H locs hw_6 hP hD hS => ?_)
  obtain ⟨a1_3, a2_4, a3_5, rfl⟩ := hw_6
  have hP : va_P D vwCl [(h0, eO 1 [.null, .null]), (q_1, eO 0 [.int 0, .int 1, .int 0, .int 0, .int 0, .int 0, .int 0, .int 0, .int 0, .int 0, .ref a1_3, .ref a2_4, .ref a3_5]), (a1_3, eI (ty 0) 24 (fun _ => 0)), (a2_4, eI (ty 0) 8 (fun _ => 0)), (a3_5, eI (ty 0) 900 (fun _ => 0))] H := hP
  have hD : va_D A [(h0, eO 1 [.null, .null]), (q_1, eO 0 [.int 0, .int 1, .int 0, .int 0, .int 0, .int 0, .int 0, .int 0, .int 0, .int 0, .ref a1_3, .ref a2_4, .ref a3_5]), (a1_3, eI (ty 0) 24 (fun _ => 0)), (a2_4, eI (ty 0) 8 (fun _ => 0)), (a3_5, eI (ty 0) 900 (fun _ => 0))] := hD
  refine r_putF (w := [(h0, eO 1 [.ref q_1, .null]), (q_1, eO 0 [.int 0, .int 1, .int 0, .int 0, .int 0, .int 0, .int 0, .int 0, .int 0, .int 0, .ref a1_3, .ref a2_4, .ref a3_5]), (a1_3, eI (ty 0) 24 (fun _ => 0)), (a2_4, eI (ty 0) 8 (fun _ => 0)), (a3_5, eI (ty 0) 900 (fun _ => 0))]) C hP hD hS 0 rfl rfl lay_X1 tok_X1 nmo_X1 0 (by decide) k_1470 rfl rfl rfl rfl (nle rfl) rfl d_X1_init_12 (fun H locs hP hD hS => ?_)
  refine lv_aload_n hx hb d_X1_init_15 rfl (lv_at hl 0 rfl) ?_
  refine r_new (ci := 5) C hP hD hS rfl lay_X5 tok_X5 nw_X5 k_1468 k_268 k_120 (by decide) (by decide) d_X1_init_16 (fun q_9 H hP hD hS => ?_)
  have hP : va_P D vwCl [(h0, eO 1 [.ref q_1, .null]), (q_1, eO 0 [.int 0, .int 1, .int 0, .int 0, .int 0, .int 0, .int 0, .int 0, .int 0, .int 0, .ref a1_3, .ref a2_4, .ref a3_5]), (a1_3, eI (ty 0) 24 (fun _ => 0)), (a2_4, eI (ty 0) 8 (fun _ => 0)), (a3_5, eI (ty 0) 900 (fun _ => 0)), (q_9, eO 5 [.null, .int 0, .int 0, .null, .null, .null])] H := hP
  have hD : va_D A [(h0, eO 1 [.ref q_1, .null]), (q_1, eO 0 [.int 0, .int 1, .int 0, .int 0, .int 0, .int 0, .int 0, .int 0, .int 0, .int 0, .ref a1_3, .ref a2_4, .ref a3_5]), (a1_3, eI (ty 0) 24 (fun _ => 0)), (a2_4, eI (ty 0) 8 (fun _ => 0)), (a3_5, eI (ty 0) 900 (fun _ => 0)), (q_9, eO 5 [.null, .int 0, .int 0, .null, .null, .null])] := hD
  refine lv_dup hx hb d_X1_init_19 rfl ?_
  have ct_10 : Cut [(h0, eO 1 [.ref q_1, .null]), (q_1, eO 0 [.int 0, .int 1, .int 0, .int 0, .int 0, .int 0, .int 0, .int 0, .int 0, .int 0, .ref a1_3, .ref a2_4, .ref a3_5]), (a1_3, eI (ty 0) 24 (fun _ => 0)), (a2_4, eI (ty 0) 8 (fun _ => 0)), (a3_5, eI (ty 0) 900 (fun _ => 0)), (q_9, eO 5 [.null, .int 0, .int 0, .null, .null, .null])] [(q_9, eO 5 [.null, .int 0, .int 0, .null, .null, .null])] [(h0, eO 1 [.ref q_1, .null]), (q_1, eO 0 [.int 0, .int 1, .int 0, .int 0, .int 0, .int 0, .int 0, .int 0, .int 0, .int 0, .ref a1_3, .ref a2_4, .ref a3_5]), (a1_3, eI (ty 0) 24 (fun _ => 0)), (a2_4, eI (ty 0) 8 (fun _ => 0)), (a3_5, eI (ty 0) 900 (fun _ => 0))] [5] [0, 1, 2, 3, 4] := ⟨rfl, rfl, rfl, rfl, by decide⟩
  refine cont_V C hP hD hS ct_10 (run_IN (As := []) (rest := [.ref q_9, .ref h0]) C hP hD hS ct_10 (c_Standing l D ty q_9) kIN_PinchedBill_Image_18 rfl hl.1 rfl (nle rfl) d_X1_init_20 ⟨by decide, by decide, by decide, by decide⟩) (fun w_17 H locs hw_15 hP hD hS => ?_)
  obtain ⟨b0_11, b1_12, b2_13, b3_14, rfl⟩ := hw_15
  have hP : va_P D vwCl [(h0, eO 1 [.ref q_1, .null]), (q_1, eO 0 [.int 0, .int 1, .int 0, .int 0, .int 0, .int 0, .int 0, .int 0, .int 0, .int 0, .ref a1_3, .ref a2_4, .ref a3_5]), (a1_3, eI (ty 0) 24 (fun _ => 0)), (a2_4, eI (ty 0) 8 (fun _ => 0)), (a3_5, eI (ty 0) 900 (fun _ => 0)), (q_9, eO 5 [.ref b0_11, .int 0, .int 0, .ref b1_12, .ref b2_13, .ref b3_14]), (b0_11, eO 7 [.int 0, .int (-1)]), (b1_12, eI (ty 0) 10 (fun _ => 0)), (b2_13, eI (ty 0) 10 (fun _ => 0)), (b3_14, eI (ty 0) 10 (fun _ => 0))] H := hP
  have hD : va_D A [(h0, eO 1 [.ref q_1, .null]), (q_1, eO 0 [.int 0, .int 1, .int 0, .int 0, .int 0, .int 0, .int 0, .int 0, .int 0, .int 0, .ref a1_3, .ref a2_4, .ref a3_5]), (a1_3, eI (ty 0) 24 (fun _ => 0)), (a2_4, eI (ty 0) 8 (fun _ => 0)), (a3_5, eI (ty 0) 900 (fun _ => 0)), (q_9, eO 5 [.ref b0_11, .int 0, .int 0, .ref b1_12, .ref b2_13, .ref b3_14]), (b0_11, eO 7 [.int 0, .int (-1)]), (b1_12, eI (ty 0) 10 (fun _ => 0)), (b2_13, eI (ty 0) 10 (fun _ => 0)), (b3_14, eI (ty 0) 10 (fun _ => 0))] := hD
  refine r_putF (w := [(h0, eO 1 [.ref q_1, .ref q_9]), (q_1, eO 0 [.int 0, .int 1, .int 0, .int 0, .int 0, .int 0, .int 0, .int 0, .int 0, .int 0, .ref a1_3, .ref a2_4, .ref a3_5]), (a1_3, eI (ty 0) 24 (fun _ => 0)), (a2_4, eI (ty 0) 8 (fun _ => 0)), (a3_5, eI (ty 0) 900 (fun _ => 0)), (q_9, eO 5 [.ref b0_11, .int 0, .int 0, .ref b1_12, .ref b2_13, .ref b3_14]), (b0_11, eO 7 [.int 0, .int (-1)]), (b1_12, eI (ty 0) 10 (fun _ => 0)), (b2_13, eI (ty 0) 10 (fun _ => 0)), (b3_14, eI (ty 0) 10 (fun _ => 0))]) C hP hD hS 0 rfl rfl lay_X1 tok_X1 nmo_X1 1 (by decide) k_1472 rfl rfl rfl rfl (nle rfl) rfl d_X1_init_23 (fun H locs hP hD hS => ?_)
  exact ret_V (w := [(h0, eO 1 [.ref q_1, .ref q_9]), (q_1, eO 0 [.int 0, .int 1, .int 0, .int 0, .int 0, .int 0, .int 0, .int 0, .int 0, .int 0, .ref a1_3, .ref a2_4, .ref a3_5]), (a1_3, eI (ty 0) 24 (fun _ => 0)), (a2_4, eI (ty 0) 8 (fun _ => 0)), (a3_5, eI (ty 0) 900 (fun _ => 0)), (q_9, eO 5 [.ref b0_11, .int 0, .int 0, .ref b1_12, .ref b2_13, .ref b3_14]), (b0_11, eO 7 [.int 0, .int (-1)]), (b1_12, eI (ty 0) 10 (fun _ => 0)), (b2_13, eI (ty 0) 10 (fun _ => 0)), (b3_14, eI (ty 0) 10 (fun _ => 0))]) C hP hD hS [0, 1, 2, 3, 4, 5, 6, 7, 8, 9] rfl rfl ⟨q_1, a1_3, a2_4, a3_5, q_9, b0_11, b1_12, b2_13, b3_14, rfl⟩ (by decide) (by decide) d_X1_init_26
set_option maxHeartbeats 4000000 in
set_option maxRecDepth 100000 in
theorem p_image (l : Launch) (D : va_G) (ty : Nat → ClassId) (h0 : Nat) (rd : Nat) (ho : Nat) (nw : Nat) (tr : Nat) (ts : Nat) (im : Nat) (g1 : Nat) (g2 : Nat) (g3 : Nat) (n0 : Nat) (n1 : Nat) (n2 : Nat) (n3 : Nat) (t : Int32) (hl9 : l.stackTraces = false) : CX l D ty ⟨"PinchedBill", "image", "(I)V"⟩ prog_1_method_46_code 3 none 7 102 11 991 [.ref h0, .int t] [(h0, eO 8 [.ref rd, .ref ho, .ref nw, .ref tr, .ref ts, .ref im, .null]), (im, eQ (ty 5) 3 (fun _ => none)), (ho, eO 0 [.int 0, .int 1, .int 0, .int 0, .int 0, .int 0, .int 0, .int 0, .int 0, .int 0, .ref g1, .ref g2, .ref g3]), (g1, eI (ty 0) 24 (fun _ => 0)), (g2, eI (ty 0) 8 (fun _ => 0)), (g3, eI (ty 0) 900 (fun _ => 0)), (nw, eO 5 [.ref n0, .int 0, .int 0, .ref n1, .ref n2, .ref n3]), (n0, eO 7 [.int 0, .int (-1)]), (n1, eI (ty 0) 10 (fun _ => 0)), (n2, eI (ty 0) 10 (fun _ => 0)), (n3, eI (ty 0) 10 (fun _ => 0))] (QV D ty (fun (w : va_W) => (¬ t < 0 ∧ t < 3) ∧ w = [])) (fun E => E = "java/util/NoSuchElementException" ∧ ¬ (¬ t < 0 ∧ t < 3)) := by
  refine CX_of (by decide) ?_
  intro p e s m below meth c A C hnt hP hD hS
  obtain ⟨⟨hx, hb, hml, hown, hts⟩, hr, hlocks, hnm, hK, hE, hA, hZ⟩ := id C
  refine startW [.ref h0, .int t] 3 (nle rfl) (lv := [(0, .ref h0), (1, .int t)]) rfl (fun ls hl => ?_)
  refine lv_iload_n hx hb d_X8_image_0 rfl (lv_at hl 1 rfl) ?_
  have ct_1 : Cut [(h0, eO 8 [.ref rd, .ref ho, .ref nw, .ref tr, .ref ts, .ref im, .null]), (im, eQ (ty 5) 3 (fun _ => none)), (ho, eO 0 [.int 0, .int 1, .int 0, .int 0, .int 0, .int 0, .int 0, .int 0, .int 0, .int 0, .ref g1, .ref g2, .ref g3]), (g1, eI (ty 0) 24 (fun _ => 0)), (g2, eI (ty 0) 8 (fun _ => 0)), (g3, eI (ty 0) 900 (fun _ => 0)), (nw, eO 5 [.ref n0, .int 0, .int 0, .ref n1, .ref n2, .ref n3]), (n0, eO 7 [.int 0, .int (-1)]), (n1, eI (ty 0) 10 (fun _ => 0)), (n2, eI (ty 0) 10 (fun _ => 0)), (n3, eI (ty 0) 10 (fun _ => 0))] [] [(h0, eO 8 [.ref rd, .ref ho, .ref nw, .ref tr, .ref ts, .ref im, .null]), (im, eQ (ty 5) 3 (fun _ => none)), (ho, eO 0 [.int 0, .int 1, .int 0, .int 0, .int 0, .int 0, .int 0, .int 0, .int 0, .int 0, .ref g1, .ref g2, .ref g3]), (g1, eI (ty 0) 24 (fun _ => 0)), (g2, eI (ty 0) 8 (fun _ => 0)), (g3, eI (ty 0) 900 (fun _ => 0)), (nw, eO 5 [.ref n0, .int 0, .int 0, .ref n1, .ref n2, .ref n3]), (n0, eO 7 [.int 0, .int (-1)]), (n1, eI (ty 0) 10 (fun _ => 0)), (n2, eI (ty 0) 10 (fun _ => 0)), (n3, eI (ty 0) 10 (fun _ => 0))] [] [0, 1, 2, 3, 4, 5, 6, 7, 8, 9, 10] := ⟨rfl, rfl, rfl, rfl, by decide⟩
  refine contx_V C hnt hP hD hS ct_1 (fun _ h => h) (by decide) (by decide) (runx_S (As := [.int t]) (rest := []) C hP hD hS ct_1 (x_image l D ty t hl9) kS_PinchedBill_298 rfl hl.1 rfl (nle rfl) d_X8_image_1 ⟨by decide, by decide, by decide, by decide⟩) (fun w_4 H locs hw_2 hP hD hS => ?_)
  obtain ⟨ht_5, rfl⟩ := hw_2
  have hP : va_P D vwCl [(h0, eO 8 [.ref rd, .ref ho, .ref nw, .ref tr, .ref ts, .ref im, .null]), (im, eQ (ty 5) 3 (fun _ => none)), (ho, eO 0 [.int 0, .int 1, .int 0, .int 0, .int 0, .int 0, .int 0, .int 0, .int 0, .int 0, .ref g1, .ref g2, .ref g3]), (g1, eI (ty 0) 24 (fun _ => 0)), (g2, eI (ty 0) 8 (fun _ => 0)), (g3, eI (ty 0) 900 (fun _ => 0)), (nw, eO 5 [.ref n0, .int 0, .int 0, .ref n1, .ref n2, .ref n3]), (n0, eO 7 [.int 0, .int (-1)]), (n1, eI (ty 0) 10 (fun _ => 0)), (n2, eI (ty 0) 10 (fun _ => 0)), (n3, eI (ty 0) 10 (fun _ => 0))] H := hP
  have hD : va_D A [(h0, eO 8 [.ref rd, .ref ho, .ref nw, .ref tr, .ref ts, .ref im, .null]), (im, eQ (ty 5) 3 (fun _ => none)), (ho, eO 0 [.int 0, .int 1, .int 0, .int 0, .int 0, .int 0, .int 0, .int 0, .int 0, .int 0, .ref g1, .ref g2, .ref g3]), (g1, eI (ty 0) 24 (fun _ => 0)), (g2, eI (ty 0) 8 (fun _ => 0)), (g3, eI (ty 0) 900 (fun _ => 0)), (nw, eO 5 [.ref n0, .int 0, .int 0, .ref n1, .ref n2, .ref n3]), (n0, eO 7 [.int 0, .int (-1)]), (n1, eI (ty 0) 10 (fun _ => 0)), (n2, eI (ty 0) 10 (fun _ => 0)), (n3, eI (ty 0) 10 (fun _ => 0))] := hD
  have hid := ht_5
  obtain ⟨ta, ha_6, rfl⟩ := idx_of (M := 3) (k := 3) rfl (by omega) hid
  refine lv_aload_n hx hb d_X8_image_4 rfl (lv_at hl 0 rfl) ?_
  refine r_get (v := .ref im) C hP 0 rfl rfl lay_X8 5 (by decide) k_325 rfl d_X8_image_5 ?_
  refine lv_iload_n hx hb d_X8_image_8 rfl (lv_at hl 1 rfl) ?_
  refine r_aald (v := .null) C hP 1 5 rfl rfl ta rfl (by omega) (by decide) rfl d_X8_image_9 ?_
  refine lv_astore_nN (lv' := [(2, .null), (0, .ref h0), (1, .int (nI ta))]) hx hb d_X8_image_10 rfl hl (by decide) rfl (fun ls hl => ?_)
  refine lv_aload_nN hx hb d_X8_image_11 rfl (lv_at hl 0 rfl) ?_
  refine lv_ifnonnullN hx hb d_X8_image_12 ?_
  refine r_new (ci := 1) C hP hD hS rfl lay_X1 tok_X1 nw_X1 k_318 k_1461 k_142 (by decide) (by decide) d_X8_image_15 (fun q_7 H hP hD hS => ?_)
  have hP : va_P D vwCl [(h0, eO 8 [.ref rd, .ref ho, .ref nw, .ref tr, .ref ts, .ref im, .null]), (im, eQ (ty 5) 3 (fun _ => none)), (ho, eO 0 [.int 0, .int 1, .int 0, .int 0, .int 0, .int 0, .int 0, .int 0, .int 0, .int 0, .ref g1, .ref g2, .ref g3]), (g1, eI (ty 0) 24 (fun _ => 0)), (g2, eI (ty 0) 8 (fun _ => 0)), (g3, eI (ty 0) 900 (fun _ => 0)), (nw, eO 5 [.ref n0, .int 0, .int 0, .ref n1, .ref n2, .ref n3]), (n0, eO 7 [.int 0, .int (-1)]), (n1, eI (ty 0) 10 (fun _ => 0)), (n2, eI (ty 0) 10 (fun _ => 0)), (n3, eI (ty 0) 10 (fun _ => 0)), (q_7, eO 1 [.null, .null])] H := hP
  have hD : va_D A [(h0, eO 8 [.ref rd, .ref ho, .ref nw, .ref tr, .ref ts, .ref im, .null]), (im, eQ (ty 5) 3 (fun _ => none)), (ho, eO 0 [.int 0, .int 1, .int 0, .int 0, .int 0, .int 0, .int 0, .int 0, .int 0, .int 0, .ref g1, .ref g2, .ref g3]), (g1, eI (ty 0) 24 (fun _ => 0)), (g2, eI (ty 0) 8 (fun _ => 0)), (g3, eI (ty 0) 900 (fun _ => 0)), (nw, eO 5 [.ref n0, .int 0, .int 0, .ref n1, .ref n2, .ref n3]), (n0, eO 7 [.int 0, .int (-1)]), (n1, eI (ty 0) 10 (fun _ => 0)), (n2, eI (ty 0) 10 (fun _ => 0)), (n3, eI (ty 0) 10 (fun _ => 0)), (q_7, eO 1 [.null, .null])] := hD
  refine lv_dup hx hb d_X8_image_18 rfl ?_
  have ct_8 : Cut [(h0, eO 8 [.ref rd, .ref ho, .ref nw, .ref tr, .ref ts, .ref im, .null]), (im, eQ (ty 5) 3 (fun _ => none)), (ho, eO 0 [.int 0, .int 1, .int 0, .int 0, .int 0, .int 0, .int 0, .int 0, .int 0, .int 0, .ref g1, .ref g2, .ref g3]), (g1, eI (ty 0) 24 (fun _ => 0)), (g2, eI (ty 0) 8 (fun _ => 0)), (g3, eI (ty 0) 900 (fun _ => 0)), (nw, eO 5 [.ref n0, .int 0, .int 0, .ref n1, .ref n2, .ref n3]), (n0, eO 7 [.int 0, .int (-1)]), (n1, eI (ty 0) 10 (fun _ => 0)), (n2, eI (ty 0) 10 (fun _ => 0)), (n3, eI (ty 0) 10 (fun _ => 0)), (q_7, eO 1 [.null, .null])] [(q_7, eO 1 [.null, .null])] [(h0, eO 8 [.ref rd, .ref ho, .ref nw, .ref tr, .ref ts, .ref im, .null]), (im, eQ (ty 5) 3 (fun _ => none)), (ho, eO 0 [.int 0, .int 1, .int 0, .int 0, .int 0, .int 0, .int 0, .int 0, .int 0, .int 0, .ref g1, .ref g2, .ref g3]), (g1, eI (ty 0) 24 (fun _ => 0)), (g2, eI (ty 0) 8 (fun _ => 0)), (g3, eI (ty 0) 900 (fun _ => 0)), (nw, eO 5 [.ref n0, .int 0, .int 0, .ref n1, .ref n2, .ref n3]), (n0, eO 7 [.int 0, .int (-1)]), (n1, eI (ty 0) 10 (fun _ => 0)), (n2, eI (ty 0) 10 (fun _ => 0)), (n3, eI (ty 0) 10 (fun _ => 0))] [11] [0, 1, 2, 3, 4, 5, 6, 7, 8, 9, 10] := ⟨rfl, rfl, rfl, rfl, by decide⟩
  refine cont_V C hP hD hS ct_8 (run_IN (As := []) (rest := [.ref q_7]) C hP hD hS ct_8 (c_Image l D ty q_7) kIN_PinchedBill_301 rfl hl.1 rfl (nle rfl) d_X8_image_19 ⟨by decide, by decide, by decide, by decide⟩) (fun w_20 H locs hw_18 hP hD hS => ?_)
  obtain ⟨i0_9, i1_10, i2_11, i3_12, i4_13, i5_14, i6_15, i7_16, i8_17, rfl⟩ := hw_18
  have hP : va_P D vwCl [(h0, eO 8 [.ref rd, .ref ho, .ref nw, .ref tr, .ref ts, .ref im, .null]), (im, eQ (ty 5) 3 (fun _ => none)), (ho, eO 0 [.int 0, .int 1, .int 0, .int 0, .int 0, .int 0, .int 0, .int 0, .int 0, .int 0, .ref g1, .ref g2, .ref g3]), (g1, eI (ty 0) 24 (fun _ => 0)), (g2, eI (ty 0) 8 (fun _ => 0)), (g3, eI (ty 0) 900 (fun _ => 0)), (nw, eO 5 [.ref n0, .int 0, .int 0, .ref n1, .ref n2, .ref n3]), (n0, eO 7 [.int 0, .int (-1)]), (n1, eI (ty 0) 10 (fun _ => 0)), (n2, eI (ty 0) 10 (fun _ => 0)), (n3, eI (ty 0) 10 (fun _ => 0)), (q_7, eO 1 [.ref i0_9, .ref i4_13]), (i0_9, eO 0 [.int 0, .int 1, .int 0, .int 0, .int 0, .int 0, .int 0, .int 0, .int 0, .int 0, .ref i1_10, .ref i2_11, .ref i3_12]), (i1_10, eI (ty 0) 24 (fun _ => 0)), (i2_11, eI (ty 0) 8 (fun _ => 0)), (i3_12, eI (ty 0) 900 (fun _ => 0)), (i4_13, eO 5 [.ref i5_14, .int 0, .int 0, .ref i6_15, .ref i7_16, .ref i8_17]), (i5_14, eO 7 [.int 0, .int (-1)]), (i6_15, eI (ty 0) 10 (fun _ => 0)), (i7_16, eI (ty 0) 10 (fun _ => 0)), (i8_17, eI (ty 0) 10 (fun _ => 0))] H := hP
  have hD : va_D A [(h0, eO 8 [.ref rd, .ref ho, .ref nw, .ref tr, .ref ts, .ref im, .null]), (im, eQ (ty 5) 3 (fun _ => none)), (ho, eO 0 [.int 0, .int 1, .int 0, .int 0, .int 0, .int 0, .int 0, .int 0, .int 0, .int 0, .ref g1, .ref g2, .ref g3]), (g1, eI (ty 0) 24 (fun _ => 0)), (g2, eI (ty 0) 8 (fun _ => 0)), (g3, eI (ty 0) 900 (fun _ => 0)), (nw, eO 5 [.ref n0, .int 0, .int 0, .ref n1, .ref n2, .ref n3]), (n0, eO 7 [.int 0, .int (-1)]), (n1, eI (ty 0) 10 (fun _ => 0)), (n2, eI (ty 0) 10 (fun _ => 0)), (n3, eI (ty 0) 10 (fun _ => 0)), (q_7, eO 1 [.ref i0_9, .ref i4_13]), (i0_9, eO 0 [.int 0, .int 1, .int 0, .int 0, .int 0, .int 0, .int 0, .int 0, .int 0, .int 0, .ref i1_10, .ref i2_11, .ref i3_12]), (i1_10, eI (ty 0) 24 (fun _ => 0)), (i2_11, eI (ty 0) 8 (fun _ => 0)), (i3_12, eI (ty 0) 900 (fun _ => 0)), (i4_13, eO 5 [.ref i5_14, .int 0, .int 0, .ref i6_15, .ref i7_16, .ref i8_17]), (i5_14, eO 7 [.int 0, .int (-1)]), (i6_15, eI (ty 0) 10 (fun _ => 0)), (i7_16, eI (ty 0) 10 (fun _ => 0)), (i8_17, eI (ty 0) 10 (fun _ => 0))] := hD
  refine lv_astore_n (lv' := [(2, .ref q_7), (0, .ref h0), (1, .int (nI ta))]) hx hb d_X8_image_22 rfl hl (by decide) rfl (fun ls hl => ?_)
  refine lv_aload_n hx hb d_X8_image_23 rfl (lv_at hl 1 rfl) ?_
  refine r_get (v := .ref im) C hP 0 rfl rfl lay_X8 5 (by decide) k_325 rfl d_X8_image_24 ?_
  refine lv_iload_n hx hb d_X8_image_27 rfl (lv_at hl 2 rfl) ?_
  refine lv_aload_n hx hb d_X8_image_28 rfl (lv_at hl 0 rfl) ?_
  refine r_aast (w := [(h0, eO 8 [.ref rd, .ref ho, .ref nw, .ref tr, .ref ts, .ref im, .null]), (im, eQ (ty 5) 3 (va_up (fun _ => none) ta (some q_7))), (ho, eO 0 [.int 0, .int 1, .int 0, .int 0, .int 0, .int 0, .int 0, .int 0, .int 0, .int 0, .ref g1, .ref g2, .ref g3]), (g1, eI (ty 0) 24 (fun _ => 0)), (g2, eI (ty 0) 8 (fun _ => 0)), (g3, eI (ty 0) 900 (fun _ => 0)), (nw, eO 5 [.ref n0, .int 0, .int 0, .ref n1, .ref n2, .ref n3]), (n0, eO 7 [.int 0, .int (-1)]), (n1, eI (ty 0) 10 (fun _ => 0)), (n2, eI (ty 0) 10 (fun _ => 0)), (n3, eI (ty 0) 10 (fun _ => 0)), (q_7, eO 1 [.ref i0_9, .ref i4_13]), (i0_9, eO 0 [.int 0, .int 1, .int 0, .int 0, .int 0, .int 0, .int 0, .int 0, .int 0, .int 0, .ref i1_10, .ref i2_11, .ref i3_12]), (i1_10, eI (ty 0) 24 (fun _ => 0)), (i2_11, eI (ty 0) 8 (fun _ => 0)), (i3_12, eI (ty 0) 900 (fun _ => 0)), (i4_13, eO 5 [.ref i5_14, .int 0, .int 0, .ref i6_15, .ref i7_16, .ref i8_17]), (i5_14, eO 7 [.int 0, .int (-1)]), (i6_15, eI (ty 0) 10 (fun _ => 0)), (i7_16, eI (ty 0) 10 (fun _ => 0)), (i8_17, eI (ty 0) 10 (fun _ => 0))]) C hP hD hS 1 5 11 rfl rfl rfl rfl ta rfl (by omega) (by decide) rfl d_X8_image_29 (fun H locs hP hD hS => ?_)
  refine lv_aload_n hx hb d_X8_image_30 rfl (lv_at hl 0 rfl) ?_
  refine r_get (v := .ref i0_9) C hP 11 rfl rfl lay_X1 0 (by decide) k_1471 rfl d_X8_image_31 ?_
  refine lv_aload_n hx hb d_X8_image_34 rfl (lv_at hl 1 rfl) ?_
  refine r_get (v := .ref ho) C hP 0 rfl rfl lay_X8 1 (by decide) k_321 rfl d_X8_image_35 ?_
  have ct_21 : Cut [(h0, eO 8 [.ref rd, .ref ho, .ref nw, .ref tr, .ref ts, .ref im, .null]), (im, eQ (ty 5) 3 (va_up (fun _ => none) ta (some q_7))), (ho, eO 0 [.int 0, .int 1, .int 0, .int 0, .int 0, .int 0, .int 0, .int 0, .int 0, .int 0, .ref g1, .ref g2, .ref g3]), (g1, eI (ty 0) 24 (fun _ => 0)), (g2, eI (ty 0) 8 (fun _ => 0)), (g3, eI (ty 0) 900 (fun _ => 0)), (nw, eO 5 [.ref n0, .int 0, .int 0, .ref n1, .ref n2, .ref n3]), (n0, eO 7 [.int 0, .int (-1)]), (n1, eI (ty 0) 10 (fun _ => 0)), (n2, eI (ty 0) 10 (fun _ => 0)), (n3, eI (ty 0) 10 (fun _ => 0)), (q_7, eO 1 [.ref i0_9, .ref i4_13]), (i0_9, eO 0 [.int 0, .int 1, .int 0, .int 0, .int 0, .int 0, .int 0, .int 0, .int 0, .int 0, .ref i1_10, .ref i2_11, .ref i3_12]), (i1_10, eI (ty 0) 24 (fun _ => 0)), (i2_11, eI (ty 0) 8 (fun _ => 0)), (i3_12, eI (ty 0) 900 (fun _ => 0)), (i4_13, eO 5 [.ref i5_14, .int 0, .int 0, .ref i6_15, .ref i7_16, .ref i8_17]), (i5_14, eO 7 [.int 0, .int (-1)]), (i6_15, eI (ty 0) 10 (fun _ => 0)), (i7_16, eI (ty 0) 10 (fun _ => 0)), (i8_17, eI (ty 0) 10 (fun _ => 0))] [(i0_9, eO 0 [.int 0, .int 1, .int 0, .int 0, .int 0, .int 0, .int 0, .int 0, .int 0, .int 0, .ref i1_10, .ref i2_11, .ref i3_12]), (i1_10, eI (ty 0) 24 (fun _ => 0)), (i2_11, eI (ty 0) 8 (fun _ => 0)), (i3_12, eI (ty 0) 900 (fun _ => 0)), (ho, eO 0 [.int 0, .int 1, .int 0, .int 0, .int 0, .int 0, .int 0, .int 0, .int 0, .int 0, .ref g1, .ref g2, .ref g3]), (g1, eI (ty 0) 24 (fun _ => 0)), (g2, eI (ty 0) 8 (fun _ => 0)), (g3, eI (ty 0) 900 (fun _ => 0))] [(h0, eO 8 [.ref rd, .ref ho, .ref nw, .ref tr, .ref ts, .ref im, .null]), (im, eQ (ty 5) 3 (va_up (fun _ => none) ta (some q_7))), (nw, eO 5 [.ref n0, .int 0, .int 0, .ref n1, .ref n2, .ref n3]), (n0, eO 7 [.int 0, .int (-1)]), (n1, eI (ty 0) 10 (fun _ => 0)), (n2, eI (ty 0) 10 (fun _ => 0)), (n3, eI (ty 0) 10 (fun _ => 0)), (q_7, eO 1 [.ref i0_9, .ref i4_13]), (i4_13, eO 5 [.ref i5_14, .int 0, .int 0, .ref i6_15, .ref i7_16, .ref i8_17]), (i5_14, eO 7 [.int 0, .int (-1)]), (i6_15, eI (ty 0) 10 (fun _ => 0)), (i7_16, eI (ty 0) 10 (fun _ => 0)), (i8_17, eI (ty 0) 10 (fun _ => 0))] [12, 13, 14, 15, 2, 3, 4, 5] [0, 1, 6, 7, 8, 9, 10, 11, 16, 17, 18, 19, 20] := ⟨rfl, rfl, rfl, rfl, by decide⟩
  refine cont_V C hP hD hS ct_21 (run_V (As := [.ref ho]) (rest := []) C hP hD hS ct_21 (c_hcopy l D ty i0_9 i1_10 i2_11 i3_12 ho g1 g2 g3) kV_PinchedBill_65 12 rfl rfl rfl rfl hl.1 rfl (nle rfl) d_X8_image_38 ⟨by decide, by decide, by decide, by decide⟩) (fun w_24 H locs hw_22 hP hD hS => ?_)
  subst hw_22
  have hP : va_P D vwCl [(h0, eO 8 [.ref rd, .ref ho, .ref nw, .ref tr, .ref ts, .ref im, .null]), (im, eQ (ty 5) 3 (va_up (fun _ => none) ta (some q_7))), (nw, eO 5 [.ref n0, .int 0, .int 0, .ref n1, .ref n2, .ref n3]), (n0, eO 7 [.int 0, .int (-1)]), (n1, eI (ty 0) 10 (fun _ => 0)), (n2, eI (ty 0) 10 (fun _ => 0)), (n3, eI (ty 0) 10 (fun _ => 0)), (q_7, eO 1 [.ref i0_9, .ref i4_13]), (i4_13, eO 5 [.ref i5_14, .int 0, .int 0, .ref i6_15, .ref i7_16, .ref i8_17]), (i5_14, eO 7 [.int 0, .int (-1)]), (i6_15, eI (ty 0) 10 (fun _ => 0)), (i7_16, eI (ty 0) 10 (fun _ => 0)), (i8_17, eI (ty 0) 10 (fun _ => 0))] H := hP
  have hD : va_D A [(h0, eO 8 [.ref rd, .ref ho, .ref nw, .ref tr, .ref ts, .ref im, .null]), (im, eQ (ty 5) 3 (va_up (fun _ => none) ta (some q_7))), (nw, eO 5 [.ref n0, .int 0, .int 0, .ref n1, .ref n2, .ref n3]), (n0, eO 7 [.int 0, .int (-1)]), (n1, eI (ty 0) 10 (fun _ => 0)), (n2, eI (ty 0) 10 (fun _ => 0)), (n3, eI (ty 0) 10 (fun _ => 0)), (q_7, eO 1 [.ref i0_9, .ref i4_13]), (i4_13, eO 5 [.ref i5_14, .int 0, .int 0, .ref i6_15, .ref i7_16, .ref i8_17]), (i5_14, eO 7 [.int 0, .int (-1)]), (i6_15, eI (ty 0) 10 (fun _ => 0)), (i7_16, eI (ty 0) 10 (fun _ => 0)), (i8_17, eI (ty 0) 10 (fun _ => 0))] := hD
  refine lv_aload_n hx hb d_X8_image_41 rfl (lv_at hl 0 rfl) ?_
  refine r_get (v := .ref i4_13) C hP 7 rfl rfl lay_X1 1 (by decide) k_1473 rfl d_X8_image_42 ?_
  refine lv_aload_n hx hb d_X8_image_45 rfl (lv_at hl 1 rfl) ?_
  refine r_get (v := .ref nw) C hP 0 rfl rfl lay_X8 2 (by decide) k_322 rfl d_X8_image_46 ?_
  have ct_25 : Cut [(h0, eO 8 [.ref rd, .ref ho, .ref nw, .ref tr, .ref ts, .ref im, .null]), (im, eQ (ty 5) 3 (va_up (fun _ => none) ta (some q_7))), (nw, eO 5 [.ref n0, .int 0, .int 0, .ref n1, .ref n2, .ref n3]), (n0, eO 7 [.int 0, .int (-1)]), (n1, eI (ty 0) 10 (fun _ => 0)), (n2, eI (ty 0) 10 (fun _ => 0)), (n3, eI (ty 0) 10 (fun _ => 0)), (q_7, eO 1 [.ref i0_9, .ref i4_13]), (i4_13, eO 5 [.ref i5_14, .int 0, .int 0, .ref i6_15, .ref i7_16, .ref i8_17]), (i5_14, eO 7 [.int 0, .int (-1)]), (i6_15, eI (ty 0) 10 (fun _ => 0)), (i7_16, eI (ty 0) 10 (fun _ => 0)), (i8_17, eI (ty 0) 10 (fun _ => 0))] [(i4_13, eO 5 [.ref i5_14, .int 0, .int 0, .ref i6_15, .ref i7_16, .ref i8_17]), (i5_14, eO 7 [.int 0, .int (-1)]), (i6_15, eI (ty 0) 10 (fun _ => 0)), (i7_16, eI (ty 0) 10 (fun _ => 0)), (i8_17, eI (ty 0) 10 (fun _ => 0)), (nw, eO 5 [.ref n0, .int 0, .int 0, .ref n1, .ref n2, .ref n3]), (n0, eO 7 [.int 0, .int (-1)]), (n1, eI (ty 0) 10 (fun _ => 0)), (n2, eI (ty 0) 10 (fun _ => 0)), (n3, eI (ty 0) 10 (fun _ => 0))] [(h0, eO 8 [.ref rd, .ref ho, .ref nw, .ref tr, .ref ts, .ref im, .null]), (im, eQ (ty 5) 3 (va_up (fun _ => none) ta (some q_7))), (q_7, eO 1 [.ref i0_9, .ref i4_13])] [8, 9, 10, 11, 12, 2, 3, 4, 5, 6] [0, 1, 7] := ⟨rfl, rfl, rfl, rfl, by decide⟩
  refine cont_V C hP hD hS ct_25 (run_V (As := [.ref nw]) (rest := []) C hP hD hS ct_25 (c_scopy l D ty i4_13 i5_14 i6_15 i7_16 i8_17 nw n0 n1 n2 n3) kV_PinchedBill_149 8 rfl rfl rfl rfl hl.1 rfl (nle rfl) d_X8_image_49 ⟨by decide, by decide, by decide, by decide⟩) (fun w_28 H locs hw_26 hP hD hS => ?_)
  subst hw_26
  have hP : va_P D vwCl [(h0, eO 8 [.ref rd, .ref ho, .ref nw, .ref tr, .ref ts, .ref im, .null]), (im, eQ (ty 5) 3 (va_up (fun _ => none) ta (some q_7))), (q_7, eO 1 [.ref i0_9, .ref i4_13])] H := hP
  have hD : va_D A [(h0, eO 8 [.ref rd, .ref ho, .ref nw, .ref tr, .ref ts, .ref im, .null]), (im, eQ (ty 5) 3 (va_up (fun _ => none) ta (some q_7))), (q_7, eO 1 [.ref i0_9, .ref i4_13])] := hD
  exact vx_ret (ret_V (w := []) C hP hD hS [] rfl rfl ⟨ht_5, rfl⟩ (by decide) (by decide) d_X8_image_52)
set_option maxHeartbeats 4000000 in
set_option maxRecDepth 100000 in
theorem c_Tray (l : Launch) (D : va_G) (ty : Nat → ClassId) (h0 : Nat) : CC l D ty ⟨"PinchedBill$Tray", "<init>", "()V"⟩ prog_8_method_1_code 1 none 1 12 1 30 [.ref h0] [(h0, eO 6 [.int 0, .int 0, .null])] (QV D ty (fun (w : va_W) => ∃ (tw : Nat), w = [(h0, eO 6 [.int 0, .int 0, .ref tw]), (tw, eJ (ty 3) 30 (fun _ => 0))])) := by
  refine CC_of (by decide) ?_
  intro p e s m below meth c A C hP hD hS
  obtain ⟨⟨hx, hb, hml, hown, hts⟩, hr, hlocks, hnm, hK, hE, hA, hZ⟩ := id C
  refine startW [.ref h0] 1 (nle rfl) (lv := [(0, .ref h0)]) rfl (fun ls hl => ?_)
  refine lv_aload_n hx hb d_X6_init_0 rfl (lv_at hl 0 rfl) ?_
  refine r_obj C k_1385 k_149 k_150 hl.1 d_X6_init_1 (by decide) (nle rfl) ?_
  refine lv_aload_n hx hb d_X6_init_4 rfl (lv_at hl 0 rfl) ?_
  refine lv_bipush (v := 30) hx hb d_X6_init_5 (by decide) ?_
  refine r_newa (a0 := (30, .inr (.inl (fun _ => 0)))) C hP hD hS 3 rfl rfl (fun _ _ h => h) k_1398 (fun _ => rfl) (by decide) (N' := 30) (by decide) (by decide) (by decide) (by decide) d_X6_init_7 (fun q_1 H hP hD hS => ?_)
  have hP : va_P D vwCl [(h0, eO 6 [.int 0, .int 0, .null]), (q_1, eJ (ty 3) 30 (fun _ => 0))] H := hP
  have hD : va_D A [(h0, eO 6 [.int 0, .int 0, .null]), (q_1, eJ (ty 3) 30 (fun _ => 0))] := hD
  refine r_putF (w := [(h0, eO 6 [.int 0, .int 0, .ref q_1]), (q_1, eJ (ty 3) 30 (fun _ => 0))]) C hP hD hS 0 rfl rfl lay_X6 tok_X6 nmo_X6 2 (by decide) k_1390 rfl rfl rfl rfl (nle rfl) rfl d_X6_init_9 (fun H locs hP hD hS => ?_)
  exact ret_V (w := [(h0, eO 6 [.int 0, .int 0, .ref q_1]), (q_1, eJ (ty 3) 30 (fun _ => 0))]) C hP hD hS [0, 1] rfl rfl ⟨q_1, rfl⟩ (by decide) (by decide) d_X6_init_12
set_option maxHeartbeats 4000000 in
set_option maxRecDepth 100000 in
theorem c_layOut (l : Launch) (D : va_G) (ty : Nat → ClassId) (h0 : Nat) (tw : Nat) (so : Int32) (ma : Int32) : CC l D ty ⟨"PinchedBill$Tray", "layOut", "(II)V"⟩ prog_8_method_2_code 3 none 1 24 0 0 [.ref h0, .int so, .int ma] [(h0, eO 6 [.int 0, .int 0, .ref tw]), (tw, eJ (ty 3) 30 (fun _ => 0))] (QV D ty (fun (w : va_W) => w = [])) := by
  refine CC_of (by decide) ?_
  intro p e s m below meth c A C hP hD hS
  obtain ⟨⟨hx, hb, hml, hown, hts⟩, hr, hlocks, hnm, hK, hE, hA, hZ⟩ := id C
  refine startW [.ref h0, .int so, .int ma] 3 (nle rfl) (lv := [(0, .ref h0), (1, .int so), (2, .int ma)]) rfl (fun ls hl => ?_)
  refine lv_aload_n hx hb d_X6_layOut_0 rfl (lv_at hl 0 rfl) ?_
  refine lv_iload_n hx hb d_X6_layOut_1 rfl (lv_at hl 1 rfl) ?_
  refine r_put (w := [(h0, eO 6 [.int 0, .int so, .ref tw]), (tw, eJ (ty 3) 30 (fun _ => 0))]) C hP hD hS 0 rfl rfl lay_X6 tok_X6 nmo_X6 1 (by decide) k_1389 rfl rfl rfl (nle rfl) rfl d_X6_layOut_2 (fun H locs hP hD hS => ?_)
  refine lv_aload_n hx hb d_X6_layOut_5 rfl (lv_at hl 0 rfl) ?_
  refine lv_iload_n hx hb d_X6_layOut_6 rfl (lv_at hl 2 rfl) ?_
  refine r_put (w := [(h0, eO 6 [.int ma, .int so, .ref tw]), (tw, eJ (ty 3) 30 (fun _ => 0))]) C hP hD hS 0 rfl rfl lay_X6 tok_X6 nmo_X6 0 (by decide) k_1386 rfl rfl rfl (nle rfl) rfl d_X6_layOut_7 (fun H locs hP hD hS => ?_)
  refine lv_aload_n hx hb d_X6_layOut_10 rfl (lv_at hl 0 rfl) ?_
  refine r_get (v := .ref tw) C hP 0 rfl rfl lay_X6 2 (by decide) k_1390 rfl d_X6_layOut_11 ?_
  refine lv_lconst (v := 0) hx hb d_X6_layOut_14 (by decide) ?_
  have ct_1 : Cut [(h0, eO 6 [.int ma, .int so, .ref tw]), (tw, eJ (ty 3) 30 (fun _ => 0))] [(tw, eJ (ty 3) 30 (fun _ => 0))] [(h0, eO 6 [.int ma, .int so, .ref tw])] [1] [0] := ⟨rfl, rfl, rfl, rfl, by decide⟩
  refine cont_V C hP hD hS ct_1 (run_S (As := [.ref tw, .long 0]) (rest := []) C hP hD hS ct_1 (c_fillJ l D ty tw 30 (fun _ => 0) 0 (by omega)) kS_PinchedBill_Tray_22 rfl hl.1 rfl (nle rfl) d_X6_layOut_15 ⟨by decide, by decide, by decide, by decide⟩) (fun w_5 H locs hw_3 hP hD hS => ?_)
  obtain ⟨g9_2, hg9_6, rfl⟩ := hw_3
  have hP : va_P D vwCl [(h0, eO 6 [.int ma, .int so, .ref tw]), (tw, eJ (ty 3) 30 g9_2)] H := hP
  have hD : va_D A [(h0, eO 6 [.int ma, .int so, .ref tw]), (tw, eJ (ty 3) 30 g9_2)] := hD
  exact ret_V (w := []) C hP hD hS [] rfl rfl rfl (by decide) (by decide) d_X6_layOut_18
set_option maxHeartbeats 4000000 in
set_option maxRecDepth 100000 in
theorem p_tray (l : Launch) (D : va_G) (ty : Nat → ClassId) (h0 : Nat) (rd : Nat) (ho : Nat) (nw : Nat) (tr : Nat) (ts : Nat) (im : Nat) (t : Int32) (so : Int32) (ma : Int32) (hl9 : l.stackTraces = false) : CX l D ty ⟨"PinchedBill", "tray", "(III)V"⟩ prog_1_method_43_code 5 none 7 104 5 51 [.ref h0, .int t, .int so, .int ma] [(h0, eO 8 [.ref rd, .ref ho, .ref nw, .ref tr, .ref ts, .ref im, .null]), (ts, eQ (ty 4) 4 (fun _ => none))] (QV D ty (fun (w : va_W) => ((¬ t < 0 ∧ t < 4) ∧ (¬ so < 0 ∧ ¬ 3 < so) ∧ (¬ ma < 0 ∧ ¬ 30 < ma)) ∧ w = [])) (fun E => (E = "java/util/NoSuchElementException" ∧ ¬ (¬ t < 0 ∧ t < 4)) ∨ (E = "java/lang/IllegalArgumentException" ∧ (¬ t < 0 ∧ t < 4) ∧ ¬ ((¬ so < 0 ∧ ¬ 3 < so) ∧ (¬ ma < 0 ∧ ¬ 30 < ma)))) := by
  refine CX_of (by decide) ?_
  intro p e s m below meth c A C hnt hP hD hS
  obtain ⟨⟨hx, hb, hml, hown, hts⟩, hr, hlocks, hnm, hK, hE, hA, hZ⟩ := id C
  refine startW [.ref h0, .int t, .int so, .int ma] 5 (nle rfl) (lv := [(0, .ref h0), (1, .int t), (2, .int so), (3, .int ma)]) rfl (fun ls hl => ?_)
  refine lv_iload_n hx hb d_X8_tray_0 rfl (lv_at hl 1 rfl) ?_
  have ct_1 : Cut [(h0, eO 8 [.ref rd, .ref ho, .ref nw, .ref tr, .ref ts, .ref im, .null]), (ts, eQ (ty 4) 4 (fun _ => none))] [] [(h0, eO 8 [.ref rd, .ref ho, .ref nw, .ref tr, .ref ts, .ref im, .null]), (ts, eQ (ty 4) 4 (fun _ => none))] [] [0, 1] := ⟨rfl, rfl, rfl, rfl, by decide⟩
  refine contx_V C hnt hP hD hS ct_1 (fun E h => Or.inl h) (by decide) (by decide) (runx_S (As := [.int t]) (rest := []) C hP hD hS ct_1 (x_tray l D ty t hl9) kS_PinchedBill_276 rfl hl.1 rfl (nle rfl) d_X8_tray_1 ⟨by decide, by decide, by decide, by decide⟩) (fun w_4 H locs hw_2 hP hD hS => ?_)
  obtain ⟨ht_5, rfl⟩ := hw_2
  have hP : va_P D vwCl [(h0, eO 8 [.ref rd, .ref ho, .ref nw, .ref tr, .ref ts, .ref im, .null]), (ts, eQ (ty 4) 4 (fun _ => none))] H := hP
  have hD : va_D A [(h0, eO 8 [.ref rd, .ref ho, .ref nw, .ref tr, .ref ts, .ref im, .null]), (ts, eQ (ty 4) 4 (fun _ => none))] := hD
  have hid := ht_5
  obtain ⟨ta, ha_6, rfl⟩ := idx_of (M := 4) (k := 4) rfl (by omega) hid
  refine lv_iload_n hx hb d_X8_tray_4 rfl (lv_at hl 2 rfl) ?_
  refine lv_iconst (v := 0) hx hb d_X8_tray_5 (by decide) ?_
  refine lv_iconst (v := 3) hx hb d_X8_tray_6 (by decide) ?_
  have ct_7 : Cut [(h0, eO 8 [.ref rd, .ref ho, .ref nw, .ref tr, .ref ts, .ref im, .null]), (ts, eQ (ty 4) 4 (fun _ => none))] [] [(h0, eO 8 [.ref rd, .ref ho, .ref nw, .ref tr, .ref ts, .ref im, .null]), (ts, eQ (ty 4) 4 (fun _ => none))] [] [0, 1] := ⟨rfl, rfl, rfl, rfl, by decide⟩
  refine contx_V C hnt hP hD hS ct_7 (fun E h => Or.inr ⟨h.1, hid, fun h9 => h.2 h9.1⟩) (by decide) (by decide) (runx_S (As := [.int so, .int 0, .int 3]) (rest := []) C hP hD hS ct_7 (x_within l D ty so 0 3 hl9) kS_PinchedBill_53 rfl hl.1 rfl (nle rfl) d_X8_tray_7 ⟨by decide, by decide, by decide, by decide⟩) (fun w_10 H locs hw_8 hP hD hS => ?_)
  obtain ⟨hwi_11, rfl⟩ := hw_8
  have hP : va_P D vwCl [(h0, eO 8 [.ref rd, .ref ho, .ref nw, .ref tr, .ref ts, .ref im, .null]), (ts, eQ (ty 4) 4 (fun _ => none))] H := hP
  have hD : va_D A [(h0, eO 8 [.ref rd, .ref ho, .ref nw, .ref tr, .ref ts, .ref im, .null]), (ts, eQ (ty 4) 4 (fun _ => none))] := hD
  refine lv_iload_n hx hb d_X8_tray_10 rfl (lv_at hl 3 rfl) ?_
  refine lv_iconst (v := 0) hx hb d_X8_tray_11 (by decide) ?_
  refine lv_bipush (v := 30) hx hb d_X8_tray_12 (by decide) ?_
  have ct_12 : Cut [(h0, eO 8 [.ref rd, .ref ho, .ref nw, .ref tr, .ref ts, .ref im, .null]), (ts, eQ (ty 4) 4 (fun _ => none))] [] [(h0, eO 8 [.ref rd, .ref ho, .ref nw, .ref tr, .ref ts, .ref im, .null]), (ts, eQ (ty 4) 4 (fun _ => none))] [] [0, 1] := ⟨rfl, rfl, rfl, rfl, by decide⟩
  refine contx_V C hnt hP hD hS ct_12 (fun E h => Or.inr ⟨h.1, hid, fun h9 => h.2 h9.2⟩) (by decide) (by decide) (runx_S (As := [.int ma, .int 0, .int 30]) (rest := []) C hP hD hS ct_12 (x_within l D ty ma 0 30 hl9) kS_PinchedBill_53 rfl hl.1 rfl (nle rfl) d_X8_tray_14 ⟨by decide, by decide, by decide, by decide⟩) (fun w_15 H locs hw_13 hP hD hS => ?_)
  obtain ⟨hwi_16, rfl⟩ := hw_13
  have hP : va_P D vwCl [(h0, eO 8 [.ref rd, .ref ho, .ref nw, .ref tr, .ref ts, .ref im, .null]), (ts, eQ (ty 4) 4 (fun _ => none))] H := hP
  have hD : va_D A [(h0, eO 8 [.ref rd, .ref ho, .ref nw, .ref tr, .ref ts, .ref im, .null]), (ts, eQ (ty 4) 4 (fun _ => none))] := hD
  refine lv_aload_n hx hb d_X8_tray_17 rfl (lv_at hl 0 rfl) ?_
  refine r_get (v := .ref ts) C hP 0 rfl rfl lay_X8 4 (by decide) k_324 rfl d_X8_tray_18 ?_
  refine lv_iload_n hx hb d_X8_tray_21 rfl (lv_at hl 1 rfl) ?_
  refine r_aald (v := .null) C hP 1 4 rfl rfl ta rfl (by omega) (by decide) rfl d_X8_tray_22 ?_
  refine lv_astoreN (lv' := [(4, .null), (0, .ref h0), (1, .int (nI ta)), (2, .int so), (3, .int ma)]) hx hb d_X8_tray_23 hl (by decide) rfl (fun ls hl => ?_)
  refine lv_aloadN hx hb d_X8_tray_25 (lv_at hl 0 rfl) ?_
  refine lv_ifnonnullN hx hb d_X8_tray_27 ?_
  refine r_new (ci := 6) C hP hD hS rfl lay_X6 tok_X6 nw_X6 k_316 k_1381 k_140 (by decide) (by decide) d_X8_tray_30 (fun q_17 H hP hD hS => ?_)
  have hP : va_P D vwCl [(h0, eO 8 [.ref rd, .ref ho, .ref nw, .ref tr, .ref ts, .ref im, .null]), (ts, eQ (ty 4) 4 (fun _ => none)), (q_17, eO 6 [.int 0, .int 0, .null])] H := hP
  have hD : va_D A [(h0, eO 8 [.ref rd, .ref ho, .ref nw, .ref tr, .ref ts, .ref im, .null]), (ts, eQ (ty 4) 4 (fun _ => none)), (q_17, eO 6 [.int 0, .int 0, .null])] := hD
  refine lv_dup hx hb d_X8_tray_33 rfl ?_
  have ct_18 : Cut [(h0, eO 8 [.ref rd, .ref ho, .ref nw, .ref tr, .ref ts, .ref im, .null]), (ts, eQ (ty 4) 4 (fun _ => none)), (q_17, eO 6 [.int 0, .int 0, .null])] [(q_17, eO 6 [.int 0, .int 0, .null])] [(h0, eO 8 [.ref rd, .ref ho, .ref nw, .ref tr, .ref ts, .ref im, .null]), (ts, eQ (ty 4) 4 (fun _ => none))] [2] [0, 1] := ⟨rfl, rfl, rfl, rfl, by decide⟩
  refine cont_V C hP hD hS ct_18 (run_IN (As := []) (rest := [.ref q_17]) C hP hD hS ct_18 (c_Tray l D ty q_17) kIN_PinchedBill_279 rfl hl.1 rfl (nle rfl) d_X8_tray_34 ⟨by decide, by decide, by decide, by decide⟩) (fun w_22 H locs hw_20 hP hD hS => ?_)
  obtain ⟨tw_19, rfl⟩ := hw_20
  have hP : va_P D vwCl [(h0, eO 8 [.ref rd, .ref ho, .ref nw, .ref tr, .ref ts, .ref im, .null]), (ts, eQ (ty 4) 4 (fun _ => none)), (q_17, eO 6 [.int 0, .int 0, .ref tw_19]), (tw_19, eJ (ty 3) 30 (fun _ => 0))] H := hP
  have hD : va_D A [(h0, eO 8 [.ref rd, .ref ho, .ref nw, .ref tr, .ref ts, .ref im, .null]), (ts, eQ (ty 4) 4 (fun _ => none)), (q_17, eO 6 [.int 0, .int 0, .ref tw_19]), (tw_19, eJ (ty 3) 30 (fun _ => 0))] := hD
  refine lv_astore (lv' := [(4, .ref q_17), (0, .ref h0), (1, .int (nI ta)), (2, .int so), (3, .int ma)]) hx hb d_X8_tray_37 hl (by decide) rfl (fun ls hl => ?_)
  refine lv_aload_n hx hb d_X8_tray_39 rfl (lv_at hl 1 rfl) ?_
  refine r_get (v := .ref ts) C hP 0 rfl rfl lay_X8 4 (by decide) k_324 rfl d_X8_tray_40 ?_
  refine lv_iload_n hx hb d_X8_tray_43 rfl (lv_at hl 2 rfl) ?_
  refine lv_aload hx hb d_X8_tray_44 (lv_at hl 0 rfl) ?_
  refine r_aast (w := [(h0, eO 8 [.ref rd, .ref ho, .ref nw, .ref tr, .ref ts, .ref im, .null]), (ts, eQ (ty 4) 4 (va_up (fun _ => none) ta (some q_17))), (q_17, eO 6 [.int 0, .int 0, .ref tw_19]), (tw_19, eJ (ty 3) 30 (fun _ => 0))]) C hP hD hS 1 4 2 rfl rfl rfl rfl ta rfl (by omega) (by decide) rfl d_X8_tray_46 (fun H locs hP hD hS => ?_)
  refine lv_aload hx hb d_X8_tray_47 (lv_at hl 0 rfl) ?_
  refine lv_iload_n hx hb d_X8_tray_49 rfl (lv_at hl 3 rfl) ?_
  refine lv_iload_n hx hb d_X8_tray_50 rfl (lv_at hl 4 rfl) ?_
  have ct_23 : Cut [(h0, eO 8 [.ref rd, .ref ho, .ref nw, .ref tr, .ref ts, .ref im, .null]), (ts, eQ (ty 4) 4 (va_up (fun _ => none) ta (some q_17))), (q_17, eO 6 [.int 0, .int 0, .ref tw_19]), (tw_19, eJ (ty 3) 30 (fun _ => 0))] [(q_17, eO 6 [.int 0, .int 0, .ref tw_19]), (tw_19, eJ (ty 3) 30 (fun _ => 0))] [(h0, eO 8 [.ref rd, .ref ho, .ref nw, .ref tr, .ref ts, .ref im, .null]), (ts, eQ (ty 4) 4 (va_up (fun _ => none) ta (some q_17)))] [2, 3] [0, 1] := ⟨rfl, rfl, rfl, rfl, by decide⟩
  refine cont_V C hP hD hS ct_23 (run_V (As := [.int so, .int ma]) (rest := []) C hP hD hS ct_23 (c_layOut l D ty q_17 tw_19 so ma) kV_PinchedBill_280 2 rfl rfl rfl rfl hl.1 rfl (nle rfl) d_X8_tray_51 ⟨by decide, by decide, by decide, by decide⟩) (fun w_26 H locs hw_24 hP hD hS => ?_)
  subst hw_24
  have hP : va_P D vwCl [(h0, eO 8 [.ref rd, .ref ho, .ref nw, .ref tr, .ref ts, .ref im, .null]), (ts, eQ (ty 4) 4 (va_up (fun _ => none) ta (some q_17)))] H := hP
  have hD : va_D A [(h0, eO 8 [.ref rd, .ref ho, .ref nw, .ref tr, .ref ts, .ref im, .null]), (ts, eQ (ty 4) 4 (va_up (fun _ => none) ta (some q_17)))] := hD
  exact vx_ret (ret_V (w := []) C hP hD hS [] rfl rfl ⟨⟨hid, hwi_11, hwi_16⟩, rfl⟩ (by decide) (by decide) d_X8_tray_54)
set_option maxHeartbeats 4000000 in
set_option maxRecDepth 100000 in
theorem c_count (l : Launch) (D : va_G) (ty : Nat → ClassId) (h0 : Nat) (rd : Nat) (ho : Nat) (nw : Nat) (tr : Nat) (ts : Nat) (im : Nat) (g1 : Nat) (g2 : Nat) (g3 : Nat) (n0 : Nat) (n1 : Nat) (n2 : Nat) (n3 : Nat) (rh : Nat) (rt : Nat) (wh : Int32) : CC l D ty ⟨"PinchedBill", "count", "(I)I"⟩ prog_1_method_48_code 2 (some .int) 1 20 0 0 [.ref h0, .int wh] [(h0, eO 8 [.ref rd, .ref ho, .ref nw, .ref tr, .ref ts, .ref im, .null]), (ho, eO 0 [.int 0, .int 1, .int 0, .int 0, .int 0, .int 0, .int 0, .int 0, .int 0, .int 0, .ref g1, .ref g2, .ref g3]), (nw, eO 5 [.ref n0, .int 0, .int 0, .ref n1, .ref n2, .ref n3]), (rd, eO 3 [.int 0, .int 0, .int (-1), .ref rh, .ref rt, .int 0, .int 0, .int 0, .int 0, .int 0, .int 0])] (QI D ty (fun (r : Int32) (w : va_W) => (cN wh) = r ∧ w = [])) := by
  refine CC_of (by decide) ?_
  intro p e s m below meth c A C hP hD hS
  obtain ⟨⟨hx, hb, hml, hown, hts⟩, hr, hlocks, hnm, hK, hE, hA, hZ⟩ := id C
  refine startW [.ref h0, .int wh] 2 (nle rfl) (lv := [(0, .ref h0), (1, .int wh)]) rfl (fun ls hl => ?_)
  refine lv_iload_n hx hb d_X8_count_0 rfl (lv_at hl 1 rfl) ?_
  rcases sw8 wh with rfl | rfl | rfl | rfl | rfl | rfl | rfl | rfl | h8
  · refine lv_tableIn (tgt := 48) hx hb d_X8_count_1 (by decide) (by decide) (by rfl) (by decide) ?_
    refine lv_aload_n hx hb d_X8_count_48 rfl (lv_at hl 0 rfl) ?_
    refine r_get (v := .ref ho) C hP 0 rfl rfl lay_X8 1 (by decide) k_321 rfl d_X8_count_49 ?_
    refine r_get (v := .int 0) C hP 1 rfl rfl lay_X0 0 (by decide) k_164 rfl d_X8_count_52 ?_
    exact ret_I (w := []) C hP hD hS [] rfl rfl ⟨(Eq.symm (by decide)), rfl⟩ (by decide) (by decide) d_X8_count_55
  · refine lv_tableIn (tgt := 56) hx hb d_X8_count_1 (by decide) (by decide) (by rfl) (by decide) ?_
    refine lv_aload_n hx hb d_X8_count_56 rfl (lv_at hl 0 rfl) ?_
    refine r_get (v := .ref ho) C hP 0 rfl rfl lay_X8 1 (by decide) k_321 rfl d_X8_count_57 ?_
    refine r_get (v := .int 1) C hP 1 rfl rfl lay_X0 1 (by decide) k_169 rfl d_X8_count_60 ?_
    exact ret_I (w := []) C hP hD hS [] rfl rfl ⟨(Eq.symm (by decide)), rfl⟩ (by decide) (by decide) d_X8_count_63
  · refine lv_tableIn (tgt := 64) hx hb d_X8_count_1 (by decide) (by decide) (by rfl) (by decide) ?_
    refine lv_aload_n hx hb d_X8_count_64 rfl (lv_at hl 0 rfl) ?_
    refine r_get (v := .ref ho) C hP 0 rfl rfl lay_X8 1 (by decide) k_321 rfl d_X8_count_65 ?_
    refine r_get (v := .int 0) C hP 1 rfl rfl lay_X0 2 (by decide) k_174 rfl d_X8_count_68 ?_
    exact ret_I (w := []) C hP hD hS [] rfl rfl ⟨(Eq.symm (by decide)), rfl⟩ (by decide) (by decide) d_X8_count_71
  · refine lv_tableIn (tgt := 72) hx hb d_X8_count_1 (by decide) (by decide) (by rfl) (by decide) ?_
    refine lv_aload_n hx hb d_X8_count_72 rfl (lv_at hl 0 rfl) ?_
    refine r_get (v := .ref nw) C hP 0 rfl rfl lay_X8 2 (by decide) k_322 rfl d_X8_count_73 ?_
    refine r_get (v := .int 0) C hP 2 rfl rfl lay_X5 1 (by decide) k_297 rfl d_X8_count_76 ?_
    exact ret_I (w := []) C hP hD hS [] rfl rfl ⟨(Eq.symm (by decide)), rfl⟩ (by decide) (by decide) d_X8_count_79
  · refine lv_tableIn (tgt := 80) hx hb d_X8_count_1 (by decide) (by decide) (by rfl) (by decide) ?_
    refine lv_aload_n hx hb d_X8_count_80 rfl (lv_at hl 0 rfl) ?_
    refine r_get (v := .ref nw) C hP 0 rfl rfl lay_X8 2 (by decide) k_322 rfl d_X8_count_81 ?_
    refine r_get (v := .int 0) C hP 2 rfl rfl lay_X5 1 (by decide) k_297 rfl d_X8_count_84 ?_
    have ct_1 : Cut [(h0, eO 8 [.ref rd, .ref ho, .ref nw, .ref tr, .ref ts, .ref im, .null]), (ho, eO 0 [.int 0, .int 1, .int 0, .int 0, .int 0, .int 0, .int 0, .int 0, .int 0, .int 0, .ref g1, .ref g2, .ref g3]), (nw, eO 5 [.ref n0, .int 0, .int 0, .ref n1, .ref n2, .ref n3]), (rd, eO 3 [.int 0, .int 0, .int (-1), .ref rh, .ref rt, .int 0, .int 0, .int 0, .int 0, .int 0, .int 0])] [] [(h0, eO 8 [.ref rd, .ref ho, .ref nw, .ref tr, .ref ts, .ref im, .null]), (ho, eO 0 [.int 0, .int 1, .int 0, .int 0, .int 0, .int 0, .int 0, .int 0, .int 0, .int 0, .ref g1, .ref g2, .ref g3]), (nw, eO 5 [.ref n0, .int 0, .int 0, .ref n1, .ref n2, .ref n3]), (rd, eO 3 [.int 0, .int 0, .int (-1), .ref rh, .ref rt, .int 0, .int 0, .int 0, .int 0, .int 0, .int 0])] [] [0, 1, 2, 3] := ⟨rfl, rfl, rfl, rfl, by decide⟩
    refine cont_I C hP hD hS ct_1 (run_S (As := [.int 0]) (rest := []) C hP hD hS ct_1 (c_bit0 l D ty) kS_PinchedBill_216 rfl hl.1 rfl (nle rfl) d_X8_count_87 ⟨by decide, by decide, by decide, by decide⟩) (fun r_3 w_4 H locs hw_2 hP hD hS => ?_)
    obtain ⟨rfl, rfl⟩ := hw_2
    have hP : va_P D vwCl [(h0, eO 8 [.ref rd, .ref ho, .ref nw, .ref tr, .ref ts, .ref im, .null]), (ho, eO 0 [.int 0, .int 1, .int 0, .int 0, .int 0, .int 0, .int 0, .int 0, .int 0, .int 0, .ref g1, .ref g2, .ref g3]), (nw, eO 5 [.ref n0, .int 0, .int 0, .ref n1, .ref n2, .ref n3]), (rd, eO 3 [.int 0, .int 0, .int (-1), .ref rh, .ref rt, .int 0, .int 0, .int 0, .int 0, .int 0, .int 0])] H := hP
    have hD : va_D A [(h0, eO 8 [.ref rd, .ref ho, .ref nw, .ref tr, .ref ts, .ref im, .null]), (ho, eO 0 [.int 0, .int 1, .int 0, .int 0, .int 0, .int 0, .int 0, .int 0, .int 0, .int 0, .ref g1, .ref g2, .ref g3]), (nw, eO 5 [.ref n0, .int 0, .int 0, .ref n1, .ref n2, .ref n3]), (rd, eO 3 [.int 0, .int 0, .int (-1), .ref rh, .ref rt, .int 0, .int 0, .int 0, .int 0, .int 0, .int 0])] := hD
    exact ret_I (w := []) C hP hD hS [] rfl rfl ⟨(Eq.symm (by decide)), rfl⟩ (by decide) (by decide) d_X8_count_90
  · refine lv_tableIn (tgt := 91) hx hb d_X8_count_1 (by decide) (by decide) (by rfl) (by decide) ?_
    refine lv_aload_n hx hb d_X8_count_91 rfl (lv_at hl 0 rfl) ?_
    refine r_get (v := .ref ho) C hP 0 rfl rfl lay_X8 1 (by decide) k_321 rfl d_X8_count_92 ?_
    have ct_5 : Cut [(h0, eO 8 [.ref rd, .ref ho, .ref nw, .ref tr, .ref ts, .ref im, .null]), (ho, eO 0 [.int 0, .int 1, .int 0, .int 0, .int 0, .int 0, .int 0, .int 0, .int 0, .int 0, .ref g1, .ref g2, .ref g3]), (nw, eO 5 [.ref n0, .int 0, .int 0, .ref n1, .ref n2, .ref n3]), (rd, eO 3 [.int 0, .int 0, .int (-1), .ref rh, .ref rt, .int 0, .int 0, .int 0, .int 0, .int 0, .int 0])] [(ho, eO 0 [.int 0, .int 1, .int 0, .int 0, .int 0, .int 0, .int 0, .int 0, .int 0, .int 0, .ref g1, .ref g2, .ref g3])] [(h0, eO 8 [.ref rd, .ref ho, .ref nw, .ref tr, .ref ts, .ref im, .null]), (nw, eO 5 [.ref n0, .int 0, .int 0, .ref n1, .ref n2, .ref n3]), (rd, eO 3 [.int 0, .int 0, .int (-1), .ref rh, .ref rt, .int 0, .int 0, .int 0, .int 0, .int 0, .int 0])] [1] [0, 2, 3] := ⟨rfl, rfl, rfl, rfl, by decide⟩
    refine cont_I C hP hD hS ct_5 (run_V (As := []) (rest := []) C hP hD hS ct_5 (c_bills l D ty ho g1 g2 g3) kV_PinchedBill_314 1 rfl rfl rfl rfl hl.1 rfl (nle rfl) d_X8_count_95 ⟨by decide, by decide, by decide, by decide⟩) (fun r_7 w_8 H locs hw_6 hP hD hS => ?_)
    obtain ⟨rfl, rfl⟩ := hw_6
    have hP : va_P D vwCl [(h0, eO 8 [.ref rd, .ref ho, .ref nw, .ref tr, .ref ts, .ref im, .null]), (nw, eO 5 [.ref n0, .int 0, .int 0, .ref n1, .ref n2, .ref n3]), (rd, eO 3 [.int 0, .int 0, .int (-1), .ref rh, .ref rt, .int 0, .int 0, .int 0, .int 0, .int 0, .int 0]), (ho, eO 0 [.int 0, .int 1, .int 0, .int 0, .int 0, .int 0, .int 0, .int 0, .int 0, .int 0, .ref g1, .ref g2, .ref g3])] H := hP
    have hD : va_D A [(h0, eO 8 [.ref rd, .ref ho, .ref nw, .ref tr, .ref ts, .ref im, .null]), (nw, eO 5 [.ref n0, .int 0, .int 0, .ref n1, .ref n2, .ref n3]), (rd, eO 3 [.int 0, .int 0, .int (-1), .ref rh, .ref rt, .int 0, .int 0, .int 0, .int 0, .int 0, .int 0]), (ho, eO 0 [.int 0, .int 1, .int 0, .int 0, .int 0, .int 0, .int 0, .int 0, .int 0, .int 0, .ref g1, .ref g2, .ref g3])] := hD
    exact ret_I (w := []) C hP hD hS [] rfl rfl ⟨(Eq.symm (by decide)), rfl⟩ (by decide) (by decide) d_X8_count_98
  · refine lv_tableIn (tgt := 99) hx hb d_X8_count_1 (by decide) (by decide) (by rfl) (by decide) ?_
    refine lv_aload_n hx hb d_X8_count_99 rfl (lv_at hl 0 rfl) ?_
    refine r_get (v := .ref nw) C hP 0 rfl rfl lay_X8 2 (by decide) k_322 rfl d_X8_count_100 ?_
    refine r_get (v := .int 0) C hP 2 rfl rfl lay_X5 2 (by decide) k_299 rfl d_X8_count_103 ?_
    exact ret_I (w := []) C hP hD hS [] rfl rfl ⟨(Eq.symm (by decide)), rfl⟩ (by decide) (by decide) d_X8_count_106
  · refine lv_tableIn (tgt := 107) hx hb d_X8_count_1 (by decide) (by decide) (by rfl) (by decide) ?_
    refine lv_aload_n hx hb d_X8_count_107 rfl (lv_at hl 0 rfl) ?_
    refine r_get (v := .ref rd) C hP 0 rfl rfl lay_X8 0 (by decide) k_320 rfl d_X8_count_108 ?_
    refine r_get (v := .int 0) C hP 3 rfl rfl lay_X3 0 (by decide) k_226 rfl d_X8_count_111 ?_
    exact ret_I (w := []) C hP hD hS [] rfl rfl ⟨(Eq.symm (by decide)), rfl⟩ (by decide) (by decide) d_X8_count_114
  · refine lv_tableOut (tgt := 115) hx hb d_X8_count_1 h8 (by decide) ?_
    refine lv_iconst (v := (-1)) hx hb d_X8_count_115 (by decide) ?_
    exact ret_I (w := []) C hP hD hS [] rfl rfl ⟨(Eq.symm (cN_out h8)), rfl⟩ (by decide) (by decide) d_X8_count_116
set_option maxHeartbeats 4000000 in
set_option maxRecDepth 100000 in
theorem a_X0_clear_1 (l : Launch) (D : va_G) (ty : Nat → ClassId) (rh : Nat) (r1 : Nat) (r2 : Nat) (r3 : Nat) : CC l D ty ⟨"PinchedBill$House", "clear", "()V"⟩ prog_2_method_2_code 1 none 1 23 0 0 [.ref rh] [(rh, eO 0 [.int 0, .int 1, .int 0, .int 0, .int 0, .int 0, .int 0, .int 0, .int 0, .int 0, .ref r1, .ref r2, .ref r3]), (r1, eI (ty 0) 24 (fun _ => 0)), (r2, eI (ty 0) 8 (fun _ => 0)), (r3, eI (ty 0) 900 (fun _ => 0))] (QV D ty (fun (w : va_W) => ∃ (x9_1 : Nat → Int32) (x9_2 : Nat → Int32), w = [(rh, eO 0 [.int 0, .int 1, .int 0, .int 0, .int 0, .int 0, .int 0, .int 0, .int 0, .int 0, .ref r1, .ref r2, .ref r3]), (r3, eI (ty 0) 900 (fun _ => 0)), (r1, eI (ty 0) 24 x9_1), (r2, eI (ty 0) 8 x9_2)])) := by
  refine CC_of (by decide) ?_
  intro p e s m below meth c A C hP hD hS
  obtain ⟨⟨hx, hb, hml, hown, hts⟩, hr, hlocks, hnm, hK, hE, hA, hZ⟩ := id C
  refine startW [.ref rh] 1 (nle rfl) (lv := [(0, .ref rh)]) rfl (fun ls hl => ?_)
  refine lv_aload_n hx hb d_X0_clear_0 rfl (lv_at hl 0 rfl) ?_
  refine lv_iconst (v := 0) hx hb d_X0_clear_1 (by decide) ?_
  refine r_put (w := [(rh, eO 0 [.int 0, .int 1, .int 0, .int 0, .int 0, .int 0, .int 0, .int 0, .int 0, .int 0, .ref r1, .ref r2, .ref r3]), (r1, eI (ty 0) 24 (fun _ => 0)), (r2, eI (ty 0) 8 (fun _ => 0)), (r3, eI (ty 0) 900 (fun _ => 0))]) C hP hD hS 0 rfl rfl lay_X0 tok_X0 nmo_X0 0 (by decide) k_163 rfl rfl rfl (nle rfl) rfl d_X0_clear_2 (fun H locs hP hD hS => ?_)
  refine lv_aload_n hx hb d_X0_clear_5 rfl (lv_at hl 0 rfl) ?_
  refine lv_iconst (v := 1) hx hb d_X0_clear_6 (by decide) ?_
  refine r_put (w := [(rh, eO 0 [.int 0, .int 1, .int 0, .int 0, .int 0, .int 0, .int 0, .int 0, .int 0, .int 0, .ref r1, .ref r2, .ref r3]), (r1, eI (ty 0) 24 (fun _ => 0)), (r2, eI (ty 0) 8 (fun _ => 0)), (r3, eI (ty 0) 900 (fun _ => 0))]) C hP hD hS 0 rfl rfl lay_X0 tok_X0 nmo_X0 1 (by decide) k_166 rfl rfl rfl (nle rfl) rfl d_X0_clear_7 (fun H locs hP hD hS => ?_)
  refine lv_aload_n hx hb d_X0_clear_10 rfl (lv_at hl 0 rfl) ?_
  refine lv_iconst (v := 0) hx hb d_X0_clear_11 (by decide) ?_
  refine r_put (w := [(rh, eO 0 [.int 0, .int 1, .int 0, .int 0, .int 0, .int 0, .int 0, .int 0, .int 0, .int 0, .ref r1, .ref r2, .ref r3]), (r1, eI (ty 0) 24 (fun _ => 0)), (r2, eI (ty 0) 8 (fun _ => 0)), (r3, eI (ty 0) 900 (fun _ => 0))]) C hP hD hS 0 rfl rfl lay_X0 tok_X0 nmo_X0 2 (by decide) k_170 rfl rfl rfl (nle rfl) rfl d_X0_clear_12 (fun H locs hP hD hS => ?_)
  refine lv_aload_n hx hb d_X0_clear_15 rfl (lv_at hl 0 rfl) ?_
  refine lv_iconst (v := 0) hx hb d_X0_clear_16 (by decide) ?_
  refine r_put (w := [(rh, eO 0 [.int 0, .int 1, .int 0, .int 0, .int 0, .int 0, .int 0, .int 0, .int 0, .int 0, .ref r1, .ref r2, .ref r3]), (r1, eI (ty 0) 24 (fun _ => 0)), (r2, eI (ty 0) 8 (fun _ => 0)), (r3, eI (ty 0) 900 (fun _ => 0))]) C hP hD hS 0 rfl rfl lay_X0 tok_X0 nmo_X0 3 (by decide) k_176 rfl rfl rfl (nle rfl) rfl d_X0_clear_17 (fun H locs hP hD hS => ?_)
  refine lv_aload_n hx hb d_X0_clear_20 rfl (lv_at hl 0 rfl) ?_
  refine lv_iconst (v := 0) hx hb d_X0_clear_21 (by decide) ?_
  refine r_put (w := [(rh, eO 0 [.int 0, .int 1, .int 0, .int 0, .int 0, .int 0, .int 0, .int 0, .int 0, .int 0, .ref r1, .ref r2, .ref r3]), (r1, eI (ty 0) 24 (fun _ => 0)), (r2, eI (ty 0) 8 (fun _ => 0)), (r3, eI (ty 0) 900 (fun _ => 0))]) C hP hD hS 0 rfl rfl lay_X0 tok_X0 nmo_X0 4 (by decide) k_179 rfl rfl rfl (nle rfl) rfl d_X0_clear_22 (fun H locs hP hD hS => ?_)
  refine lv_aload_n hx hb d_X0_clear_25 rfl (lv_at hl 0 rfl) ?_
  refine lv_iconst (v := 0) hx hb d_X0_clear_26 (by decide) ?_
  refine r_put (w := [(rh, eO 0 [.int 0, .int 1, .int 0, .int 0, .int 0, .int 0, .int 0, .int 0, .int 0, .int 0, .ref r1, .ref r2, .ref r3]), (r1, eI (ty 0) 24 (fun _ => 0)), (r2, eI (ty 0) 8 (fun _ => 0)), (r3, eI (ty 0) 900 (fun _ => 0))]) C hP hD hS 0 rfl rfl lay_X0 tok_X0 nmo_X0 5 (by decide) k_181 rfl rfl rfl (nle rfl) rfl d_X0_clear_27 (fun H locs hP hD hS => ?_)
  refine lv_aload_n hx hb d_X0_clear_30 rfl (lv_at hl 0 rfl) ?_
  refine lv_iconst (v := 0) hx hb d_X0_clear_31 (by decide) ?_
  refine r_put (w := [(rh, eO 0 [.int 0, .int 1, .int 0, .int 0, .int 0, .int 0, .int 0, .int 0, .int 0, .int 0, .ref r1, .ref r2, .ref r3]), (r1, eI (ty 0) 24 (fun _ => 0)), (r2, eI (ty 0) 8 (fun _ => 0)), (r3, eI (ty 0) 900 (fun _ => 0))]) C hP hD hS 0 rfl rfl lay_X0 tok_X0 nmo_X0 6 (by decide) k_183 rfl rfl rfl (nle rfl) rfl d_X0_clear_32 (fun H locs hP hD hS => ?_)
  refine lv_aload_n hx hb d_X0_clear_35 rfl (lv_at hl 0 rfl) ?_
  refine lv_iconst (v := 0) hx hb d_X0_clear_36 (by decide) ?_
  refine r_put (w := [(rh, eO 0 [.int 0, .int 1, .int 0, .int 0, .int 0, .int 0, .int 0, .int 0, .int 0, .int 0, .ref r1, .ref r2, .ref r3]), (r1, eI (ty 0) 24 (fun _ => 0)), (r2, eI (ty 0) 8 (fun _ => 0)), (r3, eI (ty 0) 900 (fun _ => 0))]) C hP hD hS 0 rfl rfl lay_X0 tok_X0 nmo_X0 7 (by decide) k_186 rfl rfl rfl (nle rfl) rfl d_X0_clear_37 (fun H locs hP hD hS => ?_)
  refine lv_aload_n hx hb d_X0_clear_40 rfl (lv_at hl 0 rfl) ?_
  refine lv_iconst (v := 0) hx hb d_X0_clear_41 (by decide) ?_
  refine r_put (w := [(rh, eO 0 [.int 0, .int 1, .int 0, .int 0, .int 0, .int 0, .int 0, .int 0, .int 0, .int 0, .ref r1, .ref r2, .ref r3]), (r1, eI (ty 0) 24 (fun _ => 0)), (r2, eI (ty 0) 8 (fun _ => 0)), (r3, eI (ty 0) 900 (fun _ => 0))]) C hP hD hS 0 rfl rfl lay_X0 tok_X0 nmo_X0 8 (by decide) k_189 rfl rfl rfl (nle rfl) rfl d_X0_clear_42 (fun H locs hP hD hS => ?_)
  refine lv_aload_n hx hb d_X0_clear_45 rfl (lv_at hl 0 rfl) ?_
  refine lv_iconst (v := 0) hx hb d_X0_clear_46 (by decide) ?_
  refine r_put (w := [(rh, eO 0 [.int 0, .int 1, .int 0, .int 0, .int 0, .int 0, .int 0, .int 0, .int 0, .int 0, .ref r1, .ref r2, .ref r3]), (r1, eI (ty 0) 24 (fun _ => 0)), (r2, eI (ty 0) 8 (fun _ => 0)), (r3, eI (ty 0) 900 (fun _ => 0))]) C hP hD hS 0 rfl rfl lay_X0 tok_X0 nmo_X0 9 (by decide) k_192 rfl rfl rfl (nle rfl) rfl d_X0_clear_47 (fun H locs hP hD hS => ?_)
  refine lv_aload_n hx hb d_X0_clear_50 rfl (lv_at hl 0 rfl) ?_
  refine r_get (v := .ref r1) C hP 0 rfl rfl lay_X0 10 (by decide) k_195 rfl d_X0_clear_51 ?_
  refine lv_iconst (v := 0) hx hb d_X0_clear_54 (by decide) ?_
  have ct_1 : Cut [(rh, eO 0 [.int 0, .int 1, .int 0, .int 0, .int 0, .int 0, .int 0, .int 0, .int 0, .int 0, .ref r1, .ref r2, .ref r3]), (r1, eI (ty 0) 24 (fun _ => 0)), (r2, eI (ty 0) 8 (fun _ => 0)), (r3, eI (ty 0) 900 (fun _ => 0))] [(r1, eI (ty 0) 24 (fun _ => 0))] [(rh, eO 0 [.int 0, .int 1, .int 0, .int 0, .int 0, .int 0, .int 0, .int 0, .int 0, .int 0, .ref r1, .ref r2, .ref r3]), (r2, eI (ty 0) 8 (fun _ => 0)), (r3, eI (ty 0) 900 (fun _ => 0))] [1] [0, 2, 3] := ⟨rfl, rfl, rfl, rfl, by decide⟩
  refine cont_V C hP hD hS ct_1 (run_S (As := [.ref r1, .int 0]) (rest := []) C hP hD hS ct_1 (c_fillI l D ty r1 24 (fun _ => 0) 0 (by omega)) kS_PinchedBill_House_52 rfl hl.1 rfl (nle rfl) d_X0_clear_55 ⟨by decide, by decide, by decide, by decide⟩) (fun w_5 H locs hw_3 hP hD hS => ?_)
  obtain ⟨g9_2, hg9_6, rfl⟩ := hw_3
  have hP : va_P D vwCl [(rh, eO 0 [.int 0, .int 1, .int 0, .int 0, .int 0, .int 0, .int 0, .int 0, .int 0, .int 0, .ref r1, .ref r2, .ref r3]), (r2, eI (ty 0) 8 (fun _ => 0)), (r3, eI (ty 0) 900 (fun _ => 0)), (r1, eI (ty 0) 24 g9_2)] H := hP
  have hD : va_D A [(rh, eO 0 [.int 0, .int 1, .int 0, .int 0, .int 0, .int 0, .int 0, .int 0, .int 0, .int 0, .ref r1, .ref r2, .ref r3]), (r2, eI (ty 0) 8 (fun _ => 0)), (r3, eI (ty 0) 900 (fun _ => 0)), (r1, eI (ty 0) 24 g9_2)] := hD
  refine lv_aload_n hx hb d_X0_clear_58 rfl (lv_at hl 0 rfl) ?_
  refine r_get (v := .ref r2) C hP 0 rfl rfl lay_X0 11 (by decide) k_196 rfl d_X0_clear_59 ?_
  refine lv_iconst (v := 0) hx hb d_X0_clear_62 (by decide) ?_
  have ct_7 : Cut [(rh, eO 0 [.int 0, .int 1, .int 0, .int 0, .int 0, .int 0, .int 0, .int 0, .int 0, .int 0, .ref r1, .ref r2, .ref r3]), (r2, eI (ty 0) 8 (fun _ => 0)), (r3, eI (ty 0) 900 (fun _ => 0)), (r1, eI (ty 0) 24 g9_2)] [(r2, eI (ty 0) 8 (fun _ => 0))] [(rh, eO 0 [.int 0, .int 1, .int 0, .int 0, .int 0, .int 0, .int 0, .int 0, .int 0, .int 0, .ref r1, .ref r2, .ref r3]), (r3, eI (ty 0) 900 (fun _ => 0)), (r1, eI (ty 0) 24 g9_2)] [1] [0, 2, 3] := ⟨rfl, rfl, rfl, rfl, by decide⟩
  refine cont_V C hP hD hS ct_7 (run_S (As := [.ref r2, .int 0]) (rest := []) C hP hD hS ct_7 (c_fillI l D ty r2 8 (fun _ => 0) 0 (by omega)) kS_PinchedBill_House_52 rfl hl.1 rfl (nle rfl) d_X0_clear_63 ⟨by decide, by decide, by decide, by decide⟩) (fun w_11 H locs hw_9 hP hD hS => ?_)
  obtain ⟨g9_8, hg9_12, rfl⟩ := hw_9
  have hP : va_P D vwCl [(rh, eO 0 [.int 0, .int 1, .int 0, .int 0, .int 0, .int 0, .int 0, .int 0, .int 0, .int 0, .ref r1, .ref r2, .ref r3]), (r3, eI (ty 0) 900 (fun _ => 0)), (r1, eI (ty 0) 24 g9_2), (r2, eI (ty 0) 8 g9_8)] H := hP
  have hD : va_D A [(rh, eO 0 [.int 0, .int 1, .int 0, .int 0, .int 0, .int 0, .int 0, .int 0, .int 0, .int 0, .ref r1, .ref r2, .ref r3]), (r3, eI (ty 0) 900 (fun _ => 0)), (r1, eI (ty 0) 24 g9_2), (r2, eI (ty 0) 8 g9_8)] := hD
  exact ret_V (w := [(rh, eO 0 [.int 0, .int 1, .int 0, .int 0, .int 0, .int 0, .int 0, .int 0, .int 0, .int 0, .ref r1, .ref r2, .ref r3]), (r3, eI (ty 0) 900 (fun _ => 0)), (r1, eI (ty 0) 24 g9_2), (r2, eI (ty 0) 8 g9_8)]) C hP hD hS [0, 1, 2, 3] rfl rfl ⟨g9_2, g9_8, rfl⟩ (by decide) (by decide) d_X0_clear_66
set_option maxHeartbeats 4000000 in
set_option maxRecDepth 100000 in
theorem a_X3_byteAt_2 (l : Launch) (D : va_G) (ty : Nat → ClassId) (rd : Nat) (rh : Nat) (rt : Nat) (r1 : Nat) (r2 : Nat) (r3 : Nat) (x9_1_2 : Nat → Int32) (x9_2_3 : Nat → Int32) : CC l D ty ⟨"PinchedBill$Reader", "byteAt", "(I)I"⟩ prog_5_method_22_code 2 (some .int) 0 0 0 0 [.ref rd, .int 0] [(rd, eO 3 [.int 0, .int 0, .int (-1), .ref rh, .ref rt, .int 0, .int 0, .int 0, .int 0, .int 0, .int 0]), (rh, eO 0 [.int 0, .int 1, .int 0, .int 0, .int 0, .int 0, .int 0, .int 0, .int 0, .int 0, .ref r1, .ref r2, .ref r3]), (rt, eI (ty 1) 900 (fun _ => 0)), (r1, eI (ty 0) 24 x9_1_2), (r2, eI (ty 0) 8 x9_2_3), (r3, eI (ty 0) 900 (fun _ => 0))] (QI D ty (fun (r : Int32) (w : va_W) => 0 = r ∧ w = [(rd, eO 3 [.int 0, .int 0, .int (-1), .ref rh, .ref rt, .int 0, .int 0, .int 0, .int 0, .int 0, .int 0]), (rh, eO 0 [.int 0, .int 1, .int 0, .int 0, .int 0, .int 0, .int 0, .int 0, .int 0, .int 0, .ref r1, .ref r2, .ref r3]), (rt, eI (ty 1) 900 (fun _ => 0)), (r1, eI (ty 0) 24 x9_1_2), (r2, eI (ty 0) 8 x9_2_3), (r3, eI (ty 0) 900 (fun _ => 0))])) := by
  refine CC_of (by decide) ?_
  intro p e s m below meth c A C hP hD hS
  obtain ⟨⟨hx, hb, hml, hown, hts⟩, hr, hlocks, hnm, hK, hE, hA, hZ⟩ := id C
  refine startW [.ref rd, .int 0] 2 (nle rfl) (lv := [(0, .ref rd), (1, .int 0)]) rfl (fun ls hl => ?_)
  refine lv_iload_n hx hb d_X3_byteAt_0 rfl (lv_at hl 1 rfl) ?_
  refine b_if_ltF C 32 d_X3_byteAt_1 (by decide) (by decide) ?_
  refine lv_iload_n hx hb d_X3_byteAt_4 rfl (lv_at hl 1 rfl) ?_
  refine lv_aload_n hx hb d_X3_byteAt_5 rfl (lv_at hl 0 rfl) ?_
  refine r_get (v := .int 0) C hP 0 rfl rfl lay_X3 5 (by decide) k_235 rfl d_X3_byteAt_6 ?_
  refine b_icmp_geT C 32 d_X3_byteAt_9 (by decide) (by decide) ?_
  refine lv_iconst (v := 0) hx hb d_X3_byteAt_32 (by decide) ?_
  exact ret_I (w := [(rd, eO 3 [.int 0, .int 0, .int (-1), .ref rh, .ref rt, .int 0, .int 0, .int 0, .int 0, .int 0, .int 0]), (rh, eO 0 [.int 0, .int 1, .int 0, .int 0, .int 0, .int 0, .int 0, .int 0, .int 0, .int 0, .ref r1, .ref r2, .ref r3]), (rt, eI (ty 1) 900 (fun _ => 0)), (r1, eI (ty 0) 24 x9_1_2), (r2, eI (ty 0) 8 x9_2_3), (r3, eI (ty 0) 900 (fun _ => 0))]) C hP hD hS [0, 1, 2, 3, 4, 5] rfl rfl ⟨rfl, rfl⟩ (by decide) (by decide) d_X3_byteAt_33
set_option maxHeartbeats 4000000 in
set_option maxRecDepth 100000 in
theorem a_X3_advance_2 (l : Launch) (D : va_G) (ty : Nat → ClassId) (rd : Nat) (rh : Nat) (rt : Nat) (r1 : Nat) (r2 : Nat) (r3 : Nat) (x9_1_2 : Nat → Int32) (x9_2_3 : Nat → Int32) : CC l D ty ⟨"PinchedBill$Reader", "advance", "()V"⟩ prog_5_method_23_code 2 none 1 21 0 0 [.ref rd] [(rd, eO 3 [.int 0, .int 0, .int (-1), .ref rh, .ref rt, .int 0, .int 0, .int 0, .int 0, .int 0, .int 0]), (rh, eO 0 [.int 0, .int 1, .int 0, .int 0, .int 0, .int 0, .int 0, .int 0, .int 0, .int 0, .ref r1, .ref r2, .ref r3]), (rt, eI (ty 1) 900 (fun _ => 0)), (r1, eI (ty 0) 24 x9_1_2), (r2, eI (ty 0) 8 x9_2_3), (r3, eI (ty 0) 900 (fun _ => 0))] (QV D ty (fun (w : va_W) => w = [(rd, eO 3 [.int 0, .int 0, .int (-1), .ref rh, .ref rt, .int 0, .int 0, .int 0, .int 0, .int 0, .int 0]), (rh, eO 0 [.int 0, .int 1, .int 0, .int 0, .int 0, .int 0, .int 0, .int 0, .int 0, .int 0, .ref r1, .ref r2, .ref r3]), (rt, eI (ty 1) 900 (fun _ => 0)), (r1, eI (ty 0) 24 x9_1_2), (r2, eI (ty 0) 8 x9_2_3), (r3, eI (ty 0) 900 (fun _ => 0))])) := by
  refine CC_of (by decide) ?_
  intro p e s m below meth c A C hP hD hS
  obtain ⟨⟨hx, hb, hml, hown, hts⟩, hr, hlocks, hnm, hK, hE, hA, hZ⟩ := id C
  refine startW [.ref rd] 2 (nle rfl) (lv := [(0, .ref rd)]) rfl (fun ls hl => ?_)
  refine lv_aload_n hx hb d_X3_advance_0 rfl (lv_at hl 0 rfl) ?_
  refine r_get (v := .int 0) C hP 0 rfl rfl lay_X3 1 (by decide) k_228 rfl d_X3_advance_1 ?_
  refine b_if_eqT C 8 d_X3_advance_4 (by decide) (by decide) ?_
  refine lv_aload_n hx hb d_X3_advance_8 rfl (lv_at hl 0 rfl) ?_
  refine lv_aload_n hx hb d_X3_advance_9 rfl (lv_at hl 0 rfl) ?_
  refine r_get (v := .int 0) C hP 0 rfl rfl lay_X3 8 (by decide) k_238 rfl d_X3_advance_10 ?_
  refine r_put (w := [(rd, eO 3 [.int 0, .int 0, .int (-1), .ref rh, .ref rt, .int 0, .int 0, .int 0, .int 0, .int 0, .int 0]), (rh, eO 0 [.int 0, .int 1, .int 0, .int 0, .int 0, .int 0, .int 0, .int 0, .int 0, .int 0, .ref r1, .ref r2, .ref r3]), (rt, eI (ty 1) 900 (fun _ => 0)), (r1, eI (ty 0) 24 x9_1_2), (r2, eI (ty 0) 8 x9_2_3), (r3, eI (ty 0) 900 (fun _ => 0))]) C hP hD hS 0 rfl rfl lay_X3 tok_X3 nmo_X3 7 (by decide) k_237 rfl rfl rfl (nle rfl) rfl d_X3_advance_13 (fun H locs hP hD hS => ?_)
  refine lv_aload_n hx hb d_X3_advance_16 rfl (lv_at hl 0 rfl) ?_
  refine r_get (v := .int 0) C hP 0 rfl rfl lay_X3 7 (by decide) k_237 rfl d_X3_advance_17 ?_
  refine lv_aload_n hx hb d_X3_advance_20 rfl (lv_at hl 0 rfl) ?_
  refine r_get (v := .int 0) C hP 0 rfl rfl lay_X3 5 (by decide) k_235 rfl d_X3_advance_21 ?_
  refine b_icmp_geT C 66 d_X3_advance_24 (by decide) (by decide) ?_
  refine lv_aload_n hx hb d_X3_advance_66 rfl (lv_at hl 0 rfl) ?_
  refine lv_aload_n hx hb d_X3_advance_67 rfl (lv_at hl 0 rfl) ?_
  refine r_get (v := .int 0) C hP 0 rfl rfl lay_X3 7 (by decide) k_237 rfl d_X3_advance_68 ?_
  refine r_put (w := [(rd, eO 3 [.int 0, .int 0, .int (-1), .ref rh, .ref rt, .int 0, .int 0, .int 0, .int 0, .int 0, .int 0]), (rh, eO 0 [.int 0, .int 1, .int 0, .int 0, .int 0, .int 0, .int 0, .int 0, .int 0, .int 0, .ref r1, .ref r2, .ref r3]), (rt, eI (ty 1) 900 (fun _ => 0)), (r1, eI (ty 0) 24 x9_1_2), (r2, eI (ty 0) 8 x9_2_3), (r3, eI (ty 0) 900 (fun _ => 0))]) C hP hD hS 0 rfl rfl lay_X3 tok_X3 nmo_X3 8 (by decide) k_238 rfl rfl rfl (nle rfl) rfl d_X3_advance_71 (fun H locs hP hD hS => ?_)
  refine lv_aload_n hx hb d_X3_advance_74 rfl (lv_at hl 0 rfl) ?_
  refine lv_aload_n hx hb d_X3_advance_75 rfl (lv_at hl 0 rfl) ?_
  refine r_get (v := .int 0) C hP 0 rfl rfl lay_X3 7 (by decide) k_237 rfl d_X3_advance_76 ?_
  have ct_1 : Cut [(rd, eO 3 [.int 0, .int 0, .int (-1), .ref rh, .ref rt, .int 0, .int 0, .int 0, .int 0, .int 0, .int 0]), (rh, eO 0 [.int 0, .int 1, .int 0, .int 0, .int 0, .int 0, .int 0, .int 0, .int 0, .int 0, .ref r1, .ref r2, .ref r3]), (rt, eI (ty 1) 900 (fun _ => 0)), (r1, eI (ty 0) 24 x9_1_2), (r2, eI (ty 0) 8 x9_2_3), (r3, eI (ty 0) 900 (fun _ => 0))] [(rd, eO 3 [.int 0, .int 0, .int (-1), .ref rh, .ref rt, .int 0, .int 0, .int 0, .int 0, .int 0, .int 0]), (rh, eO 0 [.int 0, .int 1, .int 0, .int 0, .int 0, .int 0, .int 0, .int 0, .int 0, .int 0, .ref r1, .ref r2, .ref r3]), (rt, eI (ty 1) 900 (fun _ => 0)), (r1, eI (ty 0) 24 x9_1_2), (r2, eI (ty 0) 8 x9_2_3), (r3, eI (ty 0) 900 (fun _ => 0))] [] [0, 1, 2, 3, 4, 5] [] := ⟨rfl, rfl, rfl, rfl, by decide⟩
  refine cont_I C hP hD hS ct_1 (run_V (As := [.int 0]) (rest := []) C hP hD hS ct_1 (a_X3_byteAt_2 l D ty rd rh rt r1 r2 r3 x9_1_2 x9_2_3) kV_PinchedBill_Reader_207 0 rfl rfl rfl rfl hl.1 rfl (nle rfl) d_X3_advance_79 ⟨by decide, by decide, by decide, by decide⟩) (fun r_3 w_4 H locs hw_2 hP hD hS => ?_)
  obtain ⟨rfl, rfl⟩ := hw_2
  have hP : va_P D vwCl [(rd, eO 3 [.int 0, .int 0, .int (-1), .ref rh, .ref rt, .int 0, .int 0, .int 0, .int 0, .int 0, .int 0]), (rh, eO 0 [.int 0, .int 1, .int 0, .int 0, .int 0, .int 0, .int 0, .int 0, .int 0, .int 0, .ref r1, .ref r2, .ref r3]), (rt, eI (ty 1) 900 (fun _ => 0)), (r1, eI (ty 0) 24 x9_1_2), (r2, eI (ty 0) 8 x9_2_3), (r3, eI (ty 0) 900 (fun _ => 0))] H := hP
  have hD : va_D A [(rd, eO 3 [.int 0, .int 0, .int (-1), .ref rh, .ref rt, .int 0, .int 0, .int 0, .int 0, .int 0, .int 0]), (rh, eO 0 [.int 0, .int 1, .int 0, .int 0, .int 0, .int 0, .int 0, .int 0, .int 0, .int 0, .ref r1, .ref r2, .ref r3]), (rt, eI (ty 1) 900 (fun _ => 0)), (r1, eI (ty 0) 24 x9_1_2), (r2, eI (ty 0) 8 x9_2_3), (r3, eI (ty 0) 900 (fun _ => 0))] := hD
  refine lv_istore_n (lv' := [(1, .int 0), (0, .ref rd)]) hx hb d_X3_advance_82 rfl hl (by decide) rfl (fun ls hl => ?_)
  refine lv_aload_n hx hb d_X3_advance_83 rfl (lv_at hl 1 rfl) ?_
  refine r_get (v := .int 0) C hP 0 rfl rfl lay_X3 7 (by decide) k_237 rfl d_X3_advance_84 ?_
  refine lv_aload_n hx hb d_X3_advance_87 rfl (lv_at hl 1 rfl) ?_
  refine r_get (v := .int 0) C hP 0 rfl rfl lay_X3 5 (by decide) k_235 rfl d_X3_advance_88 ?_
  refine b_icmp_ltF C 102 d_X3_advance_91 (by decide) (by decide) ?_
  refine lv_aload_n hx hb d_X3_advance_94 rfl (lv_at hl 1 rfl) ?_
  refine lv_iconst (v := 0) hx hb d_X3_advance_95 (by decide) ?_
  refine r_put (w := [(rd, eO 3 [.int 0, .int 0, .int (-1), .ref rh, .ref rt, .int 0, .int 0, .int 0, .int 0, .int 0, .int 0]), (rh, eO 0 [.int 0, .int 1, .int 0, .int 0, .int 0, .int 0, .int 0, .int 0, .int 0, .int 0, .ref r1, .ref r2, .ref r3]), (rt, eI (ty 1) 900 (fun _ => 0)), (r1, eI (ty 0) 24 x9_1_2), (r2, eI (ty 0) 8 x9_2_3), (r3, eI (ty 0) 900 (fun _ => 0))]) C hP hD hS 0 rfl rfl lay_X3 tok_X3 nmo_X3 6 (by decide) k_236 rfl rfl rfl (nle rfl) rfl d_X3_advance_96 (fun H locs hP hD hS => ?_)
  refine lv_goto (tgt := 279) hx hb d_X3_advance_99 (by decide) ?_
  exact ret_V (w := [(rd, eO 3 [.int 0, .int 0, .int (-1), .ref rh, .ref rt, .int 0, .int 0, .int 0, .int 0, .int 0, .int 0]), (rh, eO 0 [.int 0, .int 1, .int 0, .int 0, .int 0, .int 0, .int 0, .int 0, .int 0, .int 0, .ref r1, .ref r2, .ref r3]), (rt, eI (ty 1) 900 (fun _ => 0)), (r1, eI (ty 0) 24 x9_1_2), (r2, eI (ty 0) 8 x9_2_3), (r3, eI (ty 0) 900 (fun _ => 0))]) C hP hD hS [0, 1, 2, 3, 4, 5] rfl rfl rfl (by decide) (by decide) d_X3_advance_279
set_option maxHeartbeats 4000000 in
set_option maxRecDepth 100000 in
theorem a_X3_isWord_4 (l : Launch) (D : va_G) (ty : Nat → ClassId) (rd : Nat) (rh : Nat) (rt : Nat) (r1 : Nat) (r2 : Nat) (r3 : Nat) (sa_11 : Nat) (x9_1_2 : Nat → Int32) (x9_2_3 : Nat → Int32) : CC l D ty ⟨"PinchedBill$Reader", "isWord", "(Ljava/lang/String;)Z"⟩ prog_5_method_20_code 3 (some .boolean) 0 0 0 0 [.ref rd, .ref sa_11] [(rd, eO 3 [.int 0, .int 0, .int (-1), .ref rh, .ref rt, .int 0, .int 0, .int 0, .int 0, .int 0, .int 0]), (rh, eO 0 [.int 0, .int 1, .int 0, .int 0, .int 0, .int 0, .int 0, .int 0, .int 0, .int 0, .ref r1, .ref r2, .ref r3]), (rt, eI (ty 1) 900 (fun _ => 0)), (r1, eI (ty 0) 24 x9_1_2), (r2, eI (ty 0) 8 x9_2_3), (r3, eI (ty 0) 900 (fun _ => 0))] (QI D ty (fun (r : Int32) (w : va_W) => 0 = r ∧ w = [(rd, eO 3 [.int 0, .int 0, .int (-1), .ref rh, .ref rt, .int 0, .int 0, .int 0, .int 0, .int 0, .int 0]), (rh, eO 0 [.int 0, .int 1, .int 0, .int 0, .int 0, .int 0, .int 0, .int 0, .int 0, .int 0, .ref r1, .ref r2, .ref r3]), (rt, eI (ty 1) 900 (fun _ => 0)), (r1, eI (ty 0) 24 x9_1_2), (r2, eI (ty 0) 8 x9_2_3), (r3, eI (ty 0) 900 (fun _ => 0))])) := by
  refine CC_of (by decide) ?_
  intro p e s m below meth c A C hP hD hS
  obtain ⟨⟨hx, hb, hml, hown, hts⟩, hr, hlocks, hnm, hK, hE, hA, hZ⟩ := id C
  refine startW [.ref rd, .ref sa_11] 3 (nle rfl) (lv := [(0, .ref rd), (1, .ref sa_11)]) rfl (fun ls hl => ?_)
  refine lv_aload_n hx hb d_X3_isWord_0 rfl (lv_at hl 0 rfl) ?_
  refine r_get (v := .int 0) C hP 0 rfl rfl lay_X3 1 (by decide) k_228 rfl d_X3_isWord_1 ?_
  refine b_if_neF C 31 d_X3_isWord_4 (by decide) (by decide) ?_
  refine lv_aload_n hx hb d_X3_isWord_7 rfl (lv_at hl 0 rfl) ?_
  refine r_get (v := .int 0) C hP 0 rfl rfl lay_X3 6 (by decide) k_236 rfl d_X3_isWord_8 ?_
  refine lv_iconst (v := 1) hx hb d_X3_isWord_11 (by decide) ?_
  refine b_icmp_neT C 31 d_X3_isWord_12 (by decide) (by decide) ?_
  refine lv_iconst (v := 0) hx hb d_X3_isWord_31 (by decide) ?_
  exact ret_Z (w := [(rd, eO 3 [.int 0, .int 0, .int (-1), .ref rh, .ref rt, .int 0, .int 0, .int 0, .int 0, .int 0, .int 0]), (rh, eO 0 [.int 0, .int 1, .int 0, .int 0, .int 0, .int 0, .int 0, .int 0, .int 0, .int 0, .ref r1, .ref r2, .ref r3]), (rt, eI (ty 1) 900 (fun _ => 0)), (r1, eI (ty 0) 24 x9_1_2), (r2, eI (ty 0) 8 x9_2_3), (r3, eI (ty 0) 900 (fun _ => 0))]) C rfl hP hD hS [0, 1, 2, 3, 4, 5] rfl rfl ⟨rfl, rfl⟩ (by decide) (by decide) d_X3_isWord_32
set_option maxHeartbeats 4000000 in
set_option maxRecDepth 100000 in
theorem a_X3_refuse_5 (l : Launch) (D : va_G) (ty : Nat → ClassId) (rd : Nat) (rh : Nat) (rt : Nat) (r1 : Nat) (r2 : Nat) (r3 : Nat) (x9_1_2 : Nat → Int32) (x9_2_3 : Nat → Int32) : CC l D ty ⟨"PinchedBill$Reader", "refuse", "(I)V"⟩ prog_5_method_19_code 2 none 0 0 0 0 [.ref rd, .int 2] [(rd, eO 3 [.int 0, .int 0, .int (-1), .ref rh, .ref rt, .int 0, .int 0, .int 0, .int 0, .int 0, .int 0]), (rh, eO 0 [.int 0, .int 1, .int 0, .int 0, .int 0, .int 0, .int 0, .int 0, .int 0, .int 0, .ref r1, .ref r2, .ref r3]), (rt, eI (ty 1) 900 (fun _ => 0)), (r1, eI (ty 0) 24 x9_1_2), (r2, eI (ty 0) 8 x9_2_3), (r3, eI (ty 0) 900 (fun _ => 0))] (QV D ty (fun (w : va_W) => w = [(rd, eO 3 [.int 0, .int 2, .int 0, .ref rh, .ref rt, .int 0, .int 0, .int 0, .int 0, .int 0, .int 0]), (rh, eO 0 [.int 0, .int 1, .int 0, .int 0, .int 0, .int 0, .int 0, .int 0, .int 0, .int 0, .ref r1, .ref r2, .ref r3]), (rt, eI (ty 1) 900 (fun _ => 0)), (r1, eI (ty 0) 24 x9_1_2), (r2, eI (ty 0) 8 x9_2_3), (r3, eI (ty 0) 900 (fun _ => 0))])) := by
  refine CC_of (by decide) ?_
  intro p e s m below meth c A C hP hD hS
  obtain ⟨⟨hx, hb, hml, hown, hts⟩, hr, hlocks, hnm, hK, hE, hA, hZ⟩ := id C
  refine startW [.ref rd, .int 2] 2 (nle rfl) (lv := [(0, .ref rd), (1, .int 2)]) rfl (fun ls hl => ?_)
  refine lv_aload_n hx hb d_X3_refuse_0 rfl (lv_at hl 0 rfl) ?_
  refine r_get (v := .int 0) C hP 0 rfl rfl lay_X3 1 (by decide) k_228 rfl d_X3_refuse_1 ?_
  refine b_if_neF C 32 d_X3_refuse_4 (by decide) (by decide) ?_
  refine lv_aload_n hx hb d_X3_refuse_7 rfl (lv_at hl 0 rfl) ?_
  refine lv_aload_n hx hb d_X3_refuse_8 rfl (lv_at hl 0 rfl) ?_
  refine r_get (v := .int 0) C hP 0 rfl rfl lay_X3 6 (by decide) k_236 rfl d_X3_refuse_9 ?_
  refine lv_iconst (v := 4) hx hb d_X3_refuse_12 (by decide) ?_
  refine b_icmp_neT C 20 d_X3_refuse_13 (by decide) (by decide) ?_
  refine lv_iload_n hx hb d_X3_refuse_20 rfl (lv_at hl 1 rfl) ?_
  refine r_put (w := [(rd, eO 3 [.int 0, .int 2, .int (-1), .ref rh, .ref rt, .int 0, .int 0, .int 0, .int 0, .int 0, .int 0]), (rh, eO 0 [.int 0, .int 1, .int 0, .int 0, .int 0, .int 0, .int 0, .int 0, .int 0, .int 0, .ref r1, .ref r2, .ref r3]), (rt, eI (ty 1) 900 (fun _ => 0)), (r1, eI (ty 0) 24 x9_1_2), (r2, eI (ty 0) 8 x9_2_3), (r3, eI (ty 0) 900 (fun _ => 0))]) C hP hD hS 0 rfl rfl lay_X3 tok_X3 nmo_X3 1 (by decide) k_228 rfl rfl rfl (nle rfl) rfl d_X3_refuse_21 (fun H locs hP hD hS => ?_)
  refine lv_aload_n hx hb d_X3_refuse_24 rfl (lv_at hl 0 rfl) ?_
  refine lv_aload_n hx hb d_X3_refuse_25 rfl (lv_at hl 0 rfl) ?_
  refine r_get (v := .int 0) C hP 0 rfl rfl lay_X3 7 (by decide) k_237 rfl d_X3_refuse_26 ?_
  refine r_put (w := [(rd, eO 3 [.int 0, .int 2, .int 0, .ref rh, .ref rt, .int 0, .int 0, .int 0, .int 0, .int 0, .int 0]), (rh, eO 0 [.int 0, .int 1, .int 0, .int 0, .int 0, .int 0, .int 0, .int 0, .int 0, .int 0, .ref r1, .ref r2, .ref r3]), (rt, eI (ty 1) 900 (fun _ => 0)), (r1, eI (ty 0) 24 x9_1_2), (r2, eI (ty 0) 8 x9_2_3), (r3, eI (ty 0) 900 (fun _ => 0))]) C hP hD hS 0 rfl rfl lay_X3 tok_X3 nmo_X3 2 (by decide) k_230 rfl rfl rfl (nle rfl) rfl d_X3_refuse_29 (fun H locs hP hD hS => ?_)
  exact ret_V (w := [(rd, eO 3 [.int 0, .int 2, .int 0, .ref rh, .ref rt, .int 0, .int 0, .int 0, .int 0, .int 0, .int 0]), (rh, eO 0 [.int 0, .int 1, .int 0, .int 0, .int 0, .int 0, .int 0, .int 0, .int 0, .int 0, .ref r1, .ref r2, .ref r3]), (rt, eI (ty 1) 900 (fun _ => 0)), (r1, eI (ty 0) 24 x9_1_2), (r2, eI (ty 0) 8 x9_2_3), (r3, eI (ty 0) 900 (fun _ => 0))]) C hP hD hS [0, 1, 2, 3, 4, 5] rfl rfl rfl (by decide) (by decide) d_X3_refuse_32
set_option maxHeartbeats 4000000 in
set_option maxRecDepth 100000 in
theorem a_X3_takeWord_4 (l : Launch) (D : va_G) (ty : Nat → ClassId) (rd : Nat) (rh : Nat) (rt : Nat) (r1 : Nat) (r2 : Nat) (r3 : Nat) (sa_11 : Nat) (x9_1_2 : Nat → Int32) (x9_2_3 : Nat → Int32) : CC l D ty ⟨"PinchedBill$Reader", "takeWord", "(Ljava/lang/String;)V"⟩ prog_5_method_16_code 2 none 1 22 0 0 [.ref rd, .ref sa_11] [(rd, eO 3 [.int 0, .int 0, .int (-1), .ref rh, .ref rt, .int 0, .int 0, .int 0, .int 0, .int 0, .int 0]), (rh, eO 0 [.int 0, .int 1, .int 0, .int 0, .int 0, .int 0, .int 0, .int 0, .int 0, .int 0, .ref r1, .ref r2, .ref r3]), (rt, eI (ty 1) 900 (fun _ => 0)), (r1, eI (ty 0) 24 x9_1_2), (r2, eI (ty 0) 8 x9_2_3), (r3, eI (ty 0) 900 (fun _ => 0))] (QV D ty (fun (w : va_W) => w = [(rd, eO 3 [.int 0, .int 2, .int 0, .ref rh, .ref rt, .int 0, .int 0, .int 0, .int 0, .int 0, .int 0]), (rh, eO 0 [.int 0, .int 1, .int 0, .int 0, .int 0, .int 0, .int 0, .int 0, .int 0, .int 0, .ref r1, .ref r2, .ref r3]), (rt, eI (ty 1) 900 (fun _ => 0)), (r1, eI (ty 0) 24 x9_1_2), (r2, eI (ty 0) 8 x9_2_3), (r3, eI (ty 0) 900 (fun _ => 0))])) := by
  refine CC_of (by decide) ?_
  intro p e s m below meth c A C hP hD hS
  obtain ⟨⟨hx, hb, hml, hown, hts⟩, hr, hlocks, hnm, hK, hE, hA, hZ⟩ := id C
  refine startW [.ref rd, .ref sa_11] 2 (nle rfl) (lv := [(0, .ref rd), (1, .ref sa_11)]) rfl (fun ls hl => ?_)
  refine lv_aload_n hx hb d_X3_takeWord_0 rfl (lv_at hl 0 rfl) ?_
  refine lv_aload_n hx hb d_X3_takeWord_1 rfl (lv_at hl 1 rfl) ?_
  have ct_1 : Cut [(rd, eO 3 [.int 0, .int 0, .int (-1), .ref rh, .ref rt, .int 0, .int 0, .int 0, .int 0, .int 0, .int 0]), (rh, eO 0 [.int 0, .int 1, .int 0, .int 0, .int 0, .int 0, .int 0, .int 0, .int 0, .int 0, .ref r1, .ref r2, .ref r3]), (rt, eI (ty 1) 900 (fun _ => 0)), (r1, eI (ty 0) 24 x9_1_2), (r2, eI (ty 0) 8 x9_2_3), (r3, eI (ty 0) 900 (fun _ => 0))] [(rd, eO 3 [.int 0, .int 0, .int (-1), .ref rh, .ref rt, .int 0, .int 0, .int 0, .int 0, .int 0, .int 0]), (rh, eO 0 [.int 0, .int 1, .int 0, .int 0, .int 0, .int 0, .int 0, .int 0, .int 0, .int 0, .ref r1, .ref r2, .ref r3]), (rt, eI (ty 1) 900 (fun _ => 0)), (r1, eI (ty 0) 24 x9_1_2), (r2, eI (ty 0) 8 x9_2_3), (r3, eI (ty 0) 900 (fun _ => 0))] [] [0, 1, 2, 3, 4, 5] [] := ⟨rfl, rfl, rfl, rfl, by decide⟩
  refine cont_I C hP hD hS ct_1 (run_V (As := [.ref sa_11]) (rest := []) C hP hD hS ct_1 (a_X3_isWord_4 l D ty rd rh rt r1 r2 r3 sa_11 x9_1_2 x9_2_3) kV_PinchedBill_Reader_70 0 rfl rfl rfl rfl hl.1 rfl (nle rfl) d_X3_takeWord_2 ⟨by decide, by decide, by decide, by decide⟩) (fun r_3 w_4 H locs hw_2 hP hD hS => ?_)
  obtain ⟨rfl, rfl⟩ := hw_2
  have hP : va_P D vwCl [(rd, eO 3 [.int 0, .int 0, .int (-1), .ref rh, .ref rt, .int 0, .int 0, .int 0, .int 0, .int 0, .int 0]), (rh, eO 0 [.int 0, .int 1, .int 0, .int 0, .int 0, .int 0, .int 0, .int 0, .int 0, .int 0, .ref r1, .ref r2, .ref r3]), (rt, eI (ty 1) 900 (fun _ => 0)), (r1, eI (ty 0) 24 x9_1_2), (r2, eI (ty 0) 8 x9_2_3), (r3, eI (ty 0) 900 (fun _ => 0))] H := hP
  have hD : va_D A [(rd, eO 3 [.int 0, .int 0, .int (-1), .ref rh, .ref rt, .int 0, .int 0, .int 0, .int 0, .int 0, .int 0]), (rh, eO 0 [.int 0, .int 1, .int 0, .int 0, .int 0, .int 0, .int 0, .int 0, .int 0, .int 0, .ref r1, .ref r2, .ref r3]), (rt, eI (ty 1) 900 (fun _ => 0)), (r1, eI (ty 0) 24 x9_1_2), (r2, eI (ty 0) 8 x9_2_3), (r3, eI (ty 0) 900 (fun _ => 0))] := hD
  refine b_if_eqT C 15 d_X3_takeWord_5 (by decide) (by decide) ?_
  refine lv_aload_n hx hb d_X3_takeWord_15 rfl (lv_at hl 0 rfl) ?_
  refine lv_iconst (v := 2) hx hb d_X3_takeWord_16 (by decide) ?_
  have ct_5 : Cut [(rd, eO 3 [.int 0, .int 0, .int (-1), .ref rh, .ref rt, .int 0, .int 0, .int 0, .int 0, .int 0, .int 0]), (rh, eO 0 [.int 0, .int 1, .int 0, .int 0, .int 0, .int 0, .int 0, .int 0, .int 0, .int 0, .ref r1, .ref r2, .ref r3]), (rt, eI (ty 1) 900 (fun _ => 0)), (r1, eI (ty 0) 24 x9_1_2), (r2, eI (ty 0) 8 x9_2_3), (r3, eI (ty 0) 900 (fun _ => 0))] [(rd, eO 3 [.int 0, .int 0, .int (-1), .ref rh, .ref rt, .int 0, .int 0, .int 0, .int 0, .int 0, .int 0]), (rh, eO 0 [.int 0, .int 1, .int 0, .int 0, .int 0, .int 0, .int 0, .int 0, .int 0, .int 0, .ref r1, .ref r2, .ref r3]), (rt, eI (ty 1) 900 (fun _ => 0)), (r1, eI (ty 0) 24 x9_1_2), (r2, eI (ty 0) 8 x9_2_3), (r3, eI (ty 0) 900 (fun _ => 0))] [] [0, 1, 2, 3, 4, 5] [] := ⟨rfl, rfl, rfl, rfl, by decide⟩
  refine cont_V C hP hD hS ct_5 (run_V (As := [.int 2]) (rest := []) C hP hD hS ct_5 (a_X3_refuse_5 l D ty rd rh rt r1 r2 r3 x9_1_2 x9_2_3) kV_PinchedBill_Reader_95 0 rfl rfl rfl rfl hl.1 rfl (nle rfl) d_X3_takeWord_17 ⟨by decide, by decide, by decide, by decide⟩) (fun w_8 H locs hw_6 hP hD hS => ?_)
  subst hw_6
  have hP : va_P D vwCl [(rd, eO 3 [.int 0, .int 2, .int 0, .ref rh, .ref rt, .int 0, .int 0, .int 0, .int 0, .int 0, .int 0]), (rh, eO 0 [.int 0, .int 1, .int 0, .int 0, .int 0, .int 0, .int 0, .int 0, .int 0, .int 0, .ref r1, .ref r2, .ref r3]), (rt, eI (ty 1) 900 (fun _ => 0)), (r1, eI (ty 0) 24 x9_1_2), (r2, eI (ty 0) 8 x9_2_3), (r3, eI (ty 0) 900 (fun _ => 0))] H := hP
  have hD : va_D A [(rd, eO 3 [.int 0, .int 2, .int 0, .ref rh, .ref rt, .int 0, .int 0, .int 0, .int 0, .int 0, .int 0]), (rh, eO 0 [.int 0, .int 1, .int 0, .int 0, .int 0, .int 0, .int 0, .int 0, .int 0, .int 0, .ref r1, .ref r2, .ref r3]), (rt, eI (ty 1) 900 (fun _ => 0)), (r1, eI (ty 0) 24 x9_1_2), (r2, eI (ty 0) 8 x9_2_3), (r3, eI (ty 0) 900 (fun _ => 0))] := hD
  exact ret_V (w := [(rd, eO 3 [.int 0, .int 2, .int 0, .ref rh, .ref rt, .int 0, .int 0, .int 0, .int 0, .int 0, .int 0]), (rh, eO 0 [.int 0, .int 1, .int 0, .int 0, .int 0, .int 0, .int 0, .int 0, .int 0, .int 0, .ref r1, .ref r2, .ref r3]), (rt, eI (ty 1) 900 (fun _ => 0)), (r1, eI (ty 0) 24 x9_1_2), (r2, eI (ty 0) 8 x9_2_3), (r3, eI (ty 0) 900 (fun _ => 0))]) C hP hD hS [0, 1, 2, 3, 4, 5] rfl rfl rfl (by decide) (by decide) d_X3_takeWord_20
set_option maxHeartbeats 4000000 in
set_option maxRecDepth 100000 in
theorem a_X3_isWord_7 (l : Launch) (D : va_G) (ty : Nat → ClassId) (rd : Nat) (rh : Nat) (rt : Nat) (r1 : Nat) (r2 : Nat) (r3 : Nat) (sa_17 : Nat) (x9_1_2 : Nat → Int32) (x9_2_3 : Nat → Int32) : CC l D ty ⟨"PinchedBill$Reader", "isWord", "(Ljava/lang/String;)Z"⟩ prog_5_method_20_code 3 (some .boolean) 0 0 0 0 [.ref rd, .ref sa_17] [(rd, eO 3 [.int 0, .int 2, .int 0, .ref rh, .ref rt, .int 0, .int 0, .int 0, .int 0, .int 0, .int 0]), (rh, eO 0 [.int 0, .int 1, .int 0, .int 0, .int 0, .int 0, .int 0, .int 0, .int 0, .int 0, .ref r1, .ref r2, .ref r3]), (rt, eI (ty 1) 900 (fun _ => 0)), (r1, eI (ty 0) 24 x9_1_2), (r2, eI (ty 0) 8 x9_2_3), (r3, eI (ty 0) 900 (fun _ => 0))] (QI D ty (fun (r : Int32) (w : va_W) => 0 = r ∧ w = [(rd, eO 3 [.int 0, .int 2, .int 0, .ref rh, .ref rt, .int 0, .int 0, .int 0, .int 0, .int 0, .int 0]), (rh, eO 0 [.int 0, .int 1, .int 0, .int 0, .int 0, .int 0, .int 0, .int 0, .int 0, .int 0, .ref r1, .ref r2, .ref r3]), (rt, eI (ty 1) 900 (fun _ => 0)), (r1, eI (ty 0) 24 x9_1_2), (r2, eI (ty 0) 8 x9_2_3), (r3, eI (ty 0) 900 (fun _ => 0))])) := by
  refine CC_of (by decide) ?_
  intro p e s m below meth c A C hP hD hS
  obtain ⟨⟨hx, hb, hml, hown, hts⟩, hr, hlocks, hnm, hK, hE, hA, hZ⟩ := id C
  refine startW [.ref rd, .ref sa_17] 3 (nle rfl) (lv := [(0, .ref rd), (1, .ref sa_17)]) rfl (fun ls hl => ?_)
  refine lv_aload_n hx hb d_X3_isWord_0 rfl (lv_at hl 0 rfl) ?_
  refine r_get (v := .int 2) C hP 0 rfl rfl lay_X3 1 (by decide) k_228 rfl d_X3_isWord_1 ?_
  refine b_if_neT C 31 d_X3_isWord_4 (by decide) (by decide) ?_
  refine lv_iconst (v := 0) hx hb d_X3_isWord_31 (by decide) ?_
  exact ret_Z (w := [(rd, eO 3 [.int 0, .int 2, .int 0, .ref rh, .ref rt, .int 0, .int 0, .int 0, .int 0, .int 0, .int 0]), (rh, eO 0 [.int 0, .int 1, .int 0, .int 0, .int 0, .int 0, .int 0, .int 0, .int 0, .int 0, .ref r1, .ref r2, .ref r3]), (rt, eI (ty 1) 900 (fun _ => 0)), (r1, eI (ty 0) 24 x9_1_2), (r2, eI (ty 0) 8 x9_2_3), (r3, eI (ty 0) 900 (fun _ => 0))]) C rfl hP hD hS [0, 1, 2, 3, 4, 5] rfl rfl ⟨rfl, rfl⟩ (by decide) (by decide) d_X3_isWord_32
set_option maxHeartbeats 4000000 in
set_option maxRecDepth 100000 in
theorem a_X3_refuse_8 (l : Launch) (D : va_G) (ty : Nat → ClassId) (rd : Nat) (rh : Nat) (rt : Nat) (r1 : Nat) (r2 : Nat) (r3 : Nat) (x9_1_2 : Nat → Int32) (x9_2_3 : Nat → Int32) : CC l D ty ⟨"PinchedBill$Reader", "refuse", "(I)V"⟩ prog_5_method_19_code 2 none 0 0 0 0 [.ref rd, .int 2] [(rd, eO 3 [.int 0, .int 2, .int 0, .ref rh, .ref rt, .int 0, .int 0, .int 0, .int 0, .int 0, .int 0]), (rh, eO 0 [.int 0, .int 1, .int 0, .int 0, .int 0, .int 0, .int 0, .int 0, .int 0, .int 0, .ref r1, .ref r2, .ref r3]), (rt, eI (ty 1) 900 (fun _ => 0)), (r1, eI (ty 0) 24 x9_1_2), (r2, eI (ty 0) 8 x9_2_3), (r3, eI (ty 0) 900 (fun _ => 0))] (QV D ty (fun (w : va_W) => w = [(rd, eO 3 [.int 0, .int 2, .int 0, .ref rh, .ref rt, .int 0, .int 0, .int 0, .int 0, .int 0, .int 0]), (rh, eO 0 [.int 0, .int 1, .int 0, .int 0, .int 0, .int 0, .int 0, .int 0, .int 0, .int 0, .ref r1, .ref r2, .ref r3]), (rt, eI (ty 1) 900 (fun _ => 0)), (r1, eI (ty 0) 24 x9_1_2), (r2, eI (ty 0) 8 x9_2_3), (r3, eI (ty 0) 900 (fun _ => 0))])) := by
  refine CC_of (by decide) ?_
  intro p e s m below meth c A C hP hD hS
  obtain ⟨⟨hx, hb, hml, hown, hts⟩, hr, hlocks, hnm, hK, hE, hA, hZ⟩ := id C
  refine startW [.ref rd, .int 2] 2 (nle rfl) (lv := [(0, .ref rd), (1, .int 2)]) rfl (fun ls hl => ?_)
  refine lv_aload_n hx hb d_X3_refuse_0 rfl (lv_at hl 0 rfl) ?_
  refine r_get (v := .int 2) C hP 0 rfl rfl lay_X3 1 (by decide) k_228 rfl d_X3_refuse_1 ?_
  refine b_if_neT C 32 d_X3_refuse_4 (by decide) (by decide) ?_
  exact ret_V (w := [(rd, eO 3 [.int 0, .int 2, .int 0, .ref rh, .ref rt, .int 0, .int 0, .int 0, .int 0, .int 0, .int 0]), (rh, eO 0 [.int 0, .int 1, .int 0, .int 0, .int 0, .int 0, .int 0, .int 0, .int 0, .int 0, .ref r1, .ref r2, .ref r3]), (rt, eI (ty 1) 900 (fun _ => 0)), (r1, eI (ty 0) 24 x9_1_2), (r2, eI (ty 0) 8 x9_2_3), (r3, eI (ty 0) 900 (fun _ => 0))]) C hP hD hS [0, 1, 2, 3, 4, 5] rfl rfl rfl (by decide) (by decide) d_X3_refuse_32
set_option maxHeartbeats 4000000 in
set_option maxRecDepth 100000 in
theorem a_X3_takeWord_7 (l : Launch) (D : va_G) (ty : Nat → ClassId) (rd : Nat) (rh : Nat) (rt : Nat) (r1 : Nat) (r2 : Nat) (r3 : Nat) (sa_17 : Nat) (x9_1_2 : Nat → Int32) (x9_2_3 : Nat → Int32) : CC l D ty ⟨"PinchedBill$Reader", "takeWord", "(Ljava/lang/String;)V"⟩ prog_5_method_16_code 2 none 1 22 0 0 [.ref rd, .ref sa_17] [(rd, eO 3 [.int 0, .int 2, .int 0, .ref rh, .ref rt, .int 0, .int 0, .int 0, .int 0, .int 0, .int 0]), (rh, eO 0 [.int 0, .int 1, .int 0, .int 0, .int 0, .int 0, .int 0, .int 0, .int 0, .int 0, .ref r1, .ref r2, .ref r3]), (rt, eI (ty 1) 900 (fun _ => 0)), (r1, eI (ty 0) 24 x9_1_2), (r2, eI (ty 0) 8 x9_2_3), (r3, eI (ty 0) 900 (fun _ => 0))] (QV D ty (fun (w : va_W) => w = [(rd, eO 3 [.int 0, .int 2, .int 0, .ref rh, .ref rt, .int 0, .int 0, .int 0, .int 0, .int 0, .int 0]), (rh, eO 0 [.int 0, .int 1, .int 0, .int 0, .int 0, .int 0, .int 0, .int 0, .int 0, .int 0, .ref r1, .ref r2, .ref r3]), (rt, eI (ty 1) 900 (fun _ => 0)), (r1, eI (ty 0) 24 x9_1_2), (r2, eI (ty 0) 8 x9_2_3), (r3, eI (ty 0) 900 (fun _ => 0))])) := by
  refine CC_of (by decide) ?_
  intro p e s m below meth c A C hP hD hS
  obtain ⟨⟨hx, hb, hml, hown, hts⟩, hr, hlocks, hnm, hK, hE, hA, hZ⟩ := id C
  refine startW [.ref rd, .ref sa_17] 2 (nle rfl) (lv := [(0, .ref rd), (1, .ref sa_17)]) rfl (fun ls hl => ?_)
  refine lv_aload_n hx hb d_X3_takeWord_0 rfl (lv_at hl 0 rfl) ?_
  refine lv_aload_n hx hb d_X3_takeWord_1 rfl (lv_at hl 1 rfl) ?_
  have ct_1 : Cut [(rd, eO 3 [.int 0, .int 2, .int 0, .ref rh, .ref rt, .int 0, .int 0, .int 0, .int 0, .int 0, .int 0]), (rh, eO 0 [.int 0, .int 1, .int 0, .int 0, .int 0, .int 0, .int 0, .int 0, .int 0, .int 0, .ref r1, .ref r2, .ref r3]), (rt, eI (ty 1) 900 (fun _ => 0)), (r1, eI (ty 0) 24 x9_1_2), (r2, eI (ty 0) 8 x9_2_3), (r3, eI (ty 0) 900 (fun _ => 0))] [(rd, eO 3 [.int 0, .int 2, .int 0, .ref rh, .ref rt, .int 0, .int 0, .int 0, .int 0, .int 0, .int 0]), (rh, eO 0 [.int 0, .int 1, .int 0, .int 0, .int 0, .int 0, .int 0, .int 0, .int 0, .int 0, .ref r1, .ref r2, .ref r3]), (rt, eI (ty 1) 900 (fun _ => 0)), (r1, eI (ty 0) 24 x9_1_2), (r2, eI (ty 0) 8 x9_2_3), (r3, eI (ty 0) 900 (fun _ => 0))] [] [0, 1, 2, 3, 4, 5] [] := ⟨rfl, rfl, rfl, rfl, by decide⟩
  refine cont_I C hP hD hS ct_1 (run_V (As := [.ref sa_17]) (rest := []) C hP hD hS ct_1 (a_X3_isWord_7 l D ty rd rh rt r1 r2 r3 sa_17 x9_1_2 x9_2_3) kV_PinchedBill_Reader_70 0 rfl rfl rfl rfl hl.1 rfl (nle rfl) d_X3_takeWord_2 ⟨by decide, by decide, by decide, by decide⟩) (fun r_3 w_4 H locs hw_2 hP hD hS => ?_)
  obtain ⟨rfl, rfl⟩ := hw_2
  have hP : va_P D vwCl [(rd, eO 3 [.int 0, .int 2, .int 0, .ref rh, .ref rt, .int 0, .int 0, .int 0, .int 0, .int 0, .int 0]), (rh, eO 0 [.int 0, .int 1, .int 0, .int 0, .int 0, .int 0, .int 0, .int 0, .int 0, .int 0, .ref r1, .ref r2, .ref r3]), (rt, eI (ty 1) 900 (fun _ => 0)), (r1, eI (ty 0) 24 x9_1_2), (r2, eI (ty 0) 8 x9_2_3), (r3, eI (ty 0) 900 (fun _ => 0))] H := hP
  have hD : va_D A [(rd, eO 3 [.int 0, .int 2, .int 0, .ref rh, .ref rt, .int 0, .int 0, .int 0, .int 0, .int 0, .int 0]), (rh, eO 0 [.int 0, .int 1, .int 0, .int 0, .int 0, .int 0, .int 0, .int 0, .int 0, .int 0, .ref r1, .ref r2, .ref r3]), (rt, eI (ty 1) 900 (fun _ => 0)), (r1, eI (ty 0) 24 x9_1_2), (r2, eI (ty 0) 8 x9_2_3), (r3, eI (ty 0) 900 (fun _ => 0))] := hD
  refine b_if_eqT C 15 d_X3_takeWord_5 (by decide) (by decide) ?_
  refine lv_aload_n hx hb d_X3_takeWord_15 rfl (lv_at hl 0 rfl) ?_
  refine lv_iconst (v := 2) hx hb d_X3_takeWord_16 (by decide) ?_
  have ct_5 : Cut [(rd, eO 3 [.int 0, .int 2, .int 0, .ref rh, .ref rt, .int 0, .int 0, .int 0, .int 0, .int 0, .int 0]), (rh, eO 0 [.int 0, .int 1, .int 0, .int 0, .int 0, .int 0, .int 0, .int 0, .int 0, .int 0, .ref r1, .ref r2, .ref r3]), (rt, eI (ty 1) 900 (fun _ => 0)), (r1, eI (ty 0) 24 x9_1_2), (r2, eI (ty 0) 8 x9_2_3), (r3, eI (ty 0) 900 (fun _ => 0))] [(rd, eO 3 [.int 0, .int 2, .int 0, .ref rh, .ref rt, .int 0, .int 0, .int 0, .int 0, .int 0, .int 0]), (rh, eO 0 [.int 0, .int 1, .int 0, .int 0, .int 0, .int 0, .int 0, .int 0, .int 0, .int 0, .ref r1, .ref r2, .ref r3]), (rt, eI (ty 1) 900 (fun _ => 0)), (r1, eI (ty 0) 24 x9_1_2), (r2, eI (ty 0) 8 x9_2_3), (r3, eI (ty 0) 900 (fun _ => 0))] [] [0, 1, 2, 3, 4, 5] [] := ⟨rfl, rfl, rfl, rfl, by decide⟩
  refine cont_V C hP hD hS ct_5 (run_V (As := [.int 2]) (rest := []) C hP hD hS ct_5 (a_X3_refuse_8 l D ty rd rh rt r1 r2 r3 x9_1_2 x9_2_3) kV_PinchedBill_Reader_95 0 rfl rfl rfl rfl hl.1 rfl (nle rfl) d_X3_takeWord_17 ⟨by decide, by decide, by decide, by decide⟩) (fun w_8 H locs hw_6 hP hD hS => ?_)
  subst hw_6
  have hP : va_P D vwCl [(rd, eO 3 [.int 0, .int 2, .int 0, .ref rh, .ref rt, .int 0, .int 0, .int 0, .int 0, .int 0, .int 0]), (rh, eO 0 [.int 0, .int 1, .int 0, .int 0, .int 0, .int 0, .int 0, .int 0, .int 0, .int 0, .ref r1, .ref r2, .ref r3]), (rt, eI (ty 1) 900 (fun _ => 0)), (r1, eI (ty 0) 24 x9_1_2), (r2, eI (ty 0) 8 x9_2_3), (r3, eI (ty 0) 900 (fun _ => 0))] H := hP
  have hD : va_D A [(rd, eO 3 [.int 0, .int 2, .int 0, .ref rh, .ref rt, .int 0, .int 0, .int 0, .int 0, .int 0, .int 0]), (rh, eO 0 [.int 0, .int 1, .int 0, .int 0, .int 0, .int 0, .int 0, .int 0, .int 0, .int 0, .ref r1, .ref r2, .ref r3]), (rt, eI (ty 1) 900 (fun _ => 0)), (r1, eI (ty 0) 24 x9_1_2), (r2, eI (ty 0) 8 x9_2_3), (r3, eI (ty 0) 900 (fun _ => 0))] := hD
  exact ret_V (w := [(rd, eO 3 [.int 0, .int 2, .int 0, .ref rh, .ref rt, .int 0, .int 0, .int 0, .int 0, .int 0, .int 0]), (rh, eO 0 [.int 0, .int 1, .int 0, .int 0, .int 0, .int 0, .int 0, .int 0, .int 0, .int 0, .ref r1, .ref r2, .ref r3]), (rt, eI (ty 1) 900 (fun _ => 0)), (r1, eI (ty 0) 24 x9_1_2), (r2, eI (ty 0) 8 x9_2_3), (r3, eI (ty 0) 900 (fun _ => 0))]) C hP hD hS [0, 1, 2, 3, 4, 5] rfl rfl rfl (by decide) (by decide) d_X3_takeWord_20
set_option maxHeartbeats 4000000 in
set_option maxRecDepth 100000 in
theorem a_X3_takeNumber_10 (l : Launch) (D : va_G) (ty : Nat → ClassId) (rd : Nat) (rh : Nat) (rt : Nat) (r1 : Nat) (r2 : Nat) (r3 : Nat) (x9_1_2 : Nat → Int32) (x9_2_3 : Nat → Int32) : CC l D ty ⟨"PinchedBill$Reader", "takeNumber", "(II)I"⟩ prog_5_method_18_code 4 (some .int) 1 21 0 0 [.ref rd, .int 1, .int 3] [(rd, eO 3 [.int 0, .int 2, .int 0, .ref rh, .ref rt, .int 0, .int 0, .int 0, .int 0, .int 0, .int 0]), (rh, eO 0 [.int 0, .int 1, .int 0, .int 0, .int 0, .int 0, .int 0, .int 0, .int 0, .int 0, .ref r1, .ref r2, .ref r3]), (rt, eI (ty 1) 900 (fun _ => 0)), (r1, eI (ty 0) 24 x9_1_2), (r2, eI (ty 0) 8 x9_2_3), (r3, eI (ty 0) 900 (fun _ => 0))] (QI D ty (fun (r : Int32) (w : va_W) => 1 = r ∧ w = [(rd, eO 3 [.int 0, .int 2, .int 0, .ref rh, .ref rt, .int 0, .int 0, .int 0, .int 0, .int 0, .int 0]), (rh, eO 0 [.int 0, .int 1, .int 0, .int 0, .int 0, .int 0, .int 0, .int 0, .int 0, .int 0, .ref r1, .ref r2, .ref r3]), (rt, eI (ty 1) 900 (fun _ => 0)), (r1, eI (ty 0) 24 x9_1_2), (r2, eI (ty 0) 8 x9_2_3), (r3, eI (ty 0) 900 (fun _ => 0))])) := by
  refine CC_of (by decide) ?_
  intro p e s m below meth c A C hP hD hS
  obtain ⟨⟨hx, hb, hml, hown, hts⟩, hr, hlocks, hnm, hK, hE, hA, hZ⟩ := id C
  refine startW [.ref rd, .int 1, .int 3] 4 (nle rfl) (lv := [(0, .ref rd), (1, .int 1), (2, .int 3)]) rfl (fun ls hl => ?_)
  refine lv_aload_n hx hb d_X3_takeNumber_0 rfl (lv_at hl 0 rfl) ?_
  refine r_get (v := .int 2) C hP 0 rfl rfl lay_X3 1 (by decide) k_228 rfl d_X3_takeNumber_1 ?_
  refine b_if_neT C 15 d_X3_takeNumber_4 (by decide) (by decide) ?_
  refine lv_aload_n hx hb d_X3_takeNumber_15 rfl (lv_at hl 0 rfl) ?_
  refine lv_iconst (v := 2) hx hb d_X3_takeNumber_16 (by decide) ?_
  have ct_1 : Cut [(rd, eO 3 [.int 0, .int 2, .int 0, .ref rh, .ref rt, .int 0, .int 0, .int 0, .int 0, .int 0, .int 0]), (rh, eO 0 [.int 0, .int 1, .int 0, .int 0, .int 0, .int 0, .int 0, .int 0, .int 0, .int 0, .ref r1, .ref r2, .ref r3]), (rt, eI (ty 1) 900 (fun _ => 0)), (r1, eI (ty 0) 24 x9_1_2), (r2, eI (ty 0) 8 x9_2_3), (r3, eI (ty 0) 900 (fun _ => 0))] [(rd, eO 3 [.int 0, .int 2, .int 0, .ref rh, .ref rt, .int 0, .int 0, .int 0, .int 0, .int 0, .int 0]), (rh, eO 0 [.int 0, .int 1, .int 0, .int 0, .int 0, .int 0, .int 0, .int 0, .int 0, .int 0, .ref r1, .ref r2, .ref r3]), (rt, eI (ty 1) 900 (fun _ => 0)), (r1, eI (ty 0) 24 x9_1_2), (r2, eI (ty 0) 8 x9_2_3), (r3, eI (ty 0) 900 (fun _ => 0))] [] [0, 1, 2, 3, 4, 5] [] := ⟨rfl, rfl, rfl, rfl, by decide⟩
  refine cont_V C hP hD hS ct_1 (run_V (As := [.int 2]) (rest := []) C hP hD hS ct_1 (a_X3_refuse_8 l D ty rd rh rt r1 r2 r3 x9_1_2 x9_2_3) kV_PinchedBill_Reader_95 0 rfl rfl rfl rfl hl.1 rfl (nle rfl) d_X3_takeNumber_17 ⟨by decide, by decide, by decide, by decide⟩) (fun w_4 H locs hw_2 hP hD hS => ?_)
  subst hw_2
  have hP : va_P D vwCl [(rd, eO 3 [.int 0, .int 2, .int 0, .ref rh, .ref rt, .int 0, .int 0, .int 0, .int 0, .int 0, .int 0]), (rh, eO 0 [.int 0, .int 1, .int 0, .int 0, .int 0, .int 0, .int 0, .int 0, .int 0, .int 0, .ref r1, .ref r2, .ref r3]), (rt, eI (ty 1) 900 (fun _ => 0)), (r1, eI (ty 0) 24 x9_1_2), (r2, eI (ty 0) 8 x9_2_3), (r3, eI (ty 0) 900 (fun _ => 0))] H := hP
  have hD : va_D A [(rd, eO 3 [.int 0, .int 2, .int 0, .ref rh, .ref rt, .int 0, .int 0, .int 0, .int 0, .int 0, .int 0]), (rh, eO 0 [.int 0, .int 1, .int 0, .int 0, .int 0, .int 0, .int 0, .int 0, .int 0, .int 0, .ref r1, .ref r2, .ref r3]), (rt, eI (ty 1) 900 (fun _ => 0)), (r1, eI (ty 0) 24 x9_1_2), (r2, eI (ty 0) 8 x9_2_3), (r3, eI (ty 0) 900 (fun _ => 0))] := hD
  refine lv_iload_n hx hb d_X3_takeNumber_20 rfl (lv_at hl 1 rfl) ?_
  exact ret_I (w := [(rd, eO 3 [.int 0, .int 2, .int 0, .ref rh, .ref rt, .int 0, .int 0, .int 0, .int 0, .int 0, .int 0]), (rh, eO 0 [.int 0, .int 1, .int 0, .int 0, .int 0, .int 0, .int 0, .int 0, .int 0, .int 0, .ref r1, .ref r2, .ref r3]), (rt, eI (ty 1) 900 (fun _ => 0)), (r1, eI (ty 0) 24 x9_1_2), (r2, eI (ty 0) 8 x9_2_3), (r3, eI (ty 0) 900 (fun _ => 0))]) C hP hD hS [0, 1, 2, 3, 4, 5] rfl rfl ⟨rfl, rfl⟩ (by decide) (by decide) d_X3_takeNumber_21
set_option maxHeartbeats 4000000 in
set_option maxRecDepth 100000 in
theorem a_X3_isSign_11 (l : Launch) (D : va_G) (ty : Nat → ClassId) (rd : Nat) (rh : Nat) (rt : Nat) (r1 : Nat) (r2 : Nat) (r3 : Nat) (x9_1_2 : Nat → Int32) (x9_2_3 : Nat → Int32) : CC l D ty ⟨"PinchedBill$Reader", "isSign", "(C)Z"⟩ prog_5_method_21_code 2 (some .boolean) 0 0 0 0 [.ref rd, .int 59] [(rd, eO 3 [.int 0, .int 2, .int 0, .ref rh, .ref rt, .int 0, .int 0, .int 0, .int 0, .int 0, .int 0]), (rh, eO 0 [.int 0, .int 1, .int 0, .int 0, .int 0, .int 0, .int 0, .int 0, .int 0, .int 0, .ref r1, .ref r2, .ref r3]), (rt, eI (ty 1) 900 (fun _ => 0)), (r1, eI (ty 0) 24 x9_1_2), (r2, eI (ty 0) 8 x9_2_3), (r3, eI (ty 0) 900 (fun _ => 0))] (QI D ty (fun (r : Int32) (w : va_W) => 0 = r ∧ w = [(rd, eO 3 [.int 0, .int 2, .int 0, .ref rh, .ref rt, .int 0, .int 0, .int 0, .int 0, .int 0, .int 0]), (rh, eO 0 [.int 0, .int 1, .int 0, .int 0, .int 0, .int 0, .int 0, .int 0, .int 0, .int 0, .ref r1, .ref r2, .ref r3]), (rt, eI (ty 1) 900 (fun _ => 0)), (r1, eI (ty 0) 24 x9_1_2), (r2, eI (ty 0) 8 x9_2_3), (r3, eI (ty 0) 900 (fun _ => 0))])) := by
  refine CC_of (by decide) ?_
  intro p e s m below meth c A C hP hD hS
  obtain ⟨⟨hx, hb, hml, hown, hts⟩, hr, hlocks, hnm, hK, hE, hA, hZ⟩ := id C
  refine startW [.ref rd, .int 59] 2 (nle rfl) (lv := [(0, .ref rd), (1, .int 59)]) rfl (fun ls hl => ?_)
  refine lv_aload_n hx hb d_X3_isSign_0 rfl (lv_at hl 0 rfl) ?_
  refine r_get (v := .int 2) C hP 0 rfl rfl lay_X3 1 (by decide) k_228 rfl d_X3_isSign_1 ?_
  refine b_if_neT C 31 d_X3_isSign_4 (by decide) (by decide) ?_
  refine lv_iconst (v := 0) hx hb d_X3_isSign_31 (by decide) ?_
  exact ret_Z (w := [(rd, eO 3 [.int 0, .int 2, .int 0, .ref rh, .ref rt, .int 0, .int 0, .int 0, .int 0, .int 0, .int 0]), (rh, eO 0 [.int 0, .int 1, .int 0, .int 0, .int 0, .int 0, .int 0, .int 0, .int 0, .int 0, .ref r1, .ref r2, .ref r3]), (rt, eI (ty 1) 900 (fun _ => 0)), (r1, eI (ty 0) 24 x9_1_2), (r2, eI (ty 0) 8 x9_2_3), (r3, eI (ty 0) 900 (fun _ => 0))]) C rfl hP hD hS [0, 1, 2, 3, 4, 5] rfl rfl ⟨rfl, rfl⟩ (by decide) (by decide) d_X3_isSign_32
set_option maxHeartbeats 4000000 in
set_option maxRecDepth 100000 in
theorem a_X3_takeSign_11 (l : Launch) (D : va_G) (ty : Nat → ClassId) (rd : Nat) (rh : Nat) (rt : Nat) (r1 : Nat) (r2 : Nat) (r3 : Nat) (x9_1_2 : Nat → Int32) (x9_2_3 : Nat → Int32) : CC l D ty ⟨"PinchedBill$Reader", "takeSign", "(C)V"⟩ prog_5_method_17_code 2 none 1 21 0 0 [.ref rd, .int 59] [(rd, eO 3 [.int 0, .int 2, .int 0, .ref rh, .ref rt, .int 0, .int 0, .int 0, .int 0, .int 0, .int 0]), (rh, eO 0 [.int 0, .int 1, .int 0, .int 0, .int 0, .int 0, .int 0, .int 0, .int 0, .int 0, .ref r1, .ref r2, .ref r3]), (rt, eI (ty 1) 900 (fun _ => 0)), (r1, eI (ty 0) 24 x9_1_2), (r2, eI (ty 0) 8 x9_2_3), (r3, eI (ty 0) 900 (fun _ => 0))] (QV D ty (fun (w : va_W) => w = [(rd, eO 3 [.int 0, .int 2, .int 0, .ref rh, .ref rt, .int 0, .int 0, .int 0, .int 0, .int 0, .int 0]), (rh, eO 0 [.int 0, .int 1, .int 0, .int 0, .int 0, .int 0, .int 0, .int 0, .int 0, .int 0, .ref r1, .ref r2, .ref r3]), (rt, eI (ty 1) 900 (fun _ => 0)), (r1, eI (ty 0) 24 x9_1_2), (r2, eI (ty 0) 8 x9_2_3), (r3, eI (ty 0) 900 (fun _ => 0))])) := by
  refine CC_of (by decide) ?_
  intro p e s m below meth c A C hP hD hS
  obtain ⟨⟨hx, hb, hml, hown, hts⟩, hr, hlocks, hnm, hK, hE, hA, hZ⟩ := id C
  refine startW [.ref rd, .int 59] 2 (nle rfl) (lv := [(0, .ref rd), (1, .int 59)]) rfl (fun ls hl => ?_)
  refine lv_aload_n hx hb d_X3_takeSign_0 rfl (lv_at hl 0 rfl) ?_
  refine lv_iload_n hx hb d_X3_takeSign_1 rfl (lv_at hl 1 rfl) ?_
  have ct_1 : Cut [(rd, eO 3 [.int 0, .int 2, .int 0, .ref rh, .ref rt, .int 0, .int 0, .int 0, .int 0, .int 0, .int 0]), (rh, eO 0 [.int 0, .int 1, .int 0, .int 0, .int 0, .int 0, .int 0, .int 0, .int 0, .int 0, .ref r1, .ref r2, .ref r3]), (rt, eI (ty 1) 900 (fun _ => 0)), (r1, eI (ty 0) 24 x9_1_2), (r2, eI (ty 0) 8 x9_2_3), (r3, eI (ty 0) 900 (fun _ => 0))] [(rd, eO 3 [.int 0, .int 2, .int 0, .ref rh, .ref rt, .int 0, .int 0, .int 0, .int 0, .int 0, .int 0]), (rh, eO 0 [.int 0, .int 1, .int 0, .int 0, .int 0, .int 0, .int 0, .int 0, .int 0, .int 0, .ref r1, .ref r2, .ref r3]), (rt, eI (ty 1) 900 (fun _ => 0)), (r1, eI (ty 0) 24 x9_1_2), (r2, eI (ty 0) 8 x9_2_3), (r3, eI (ty 0) 900 (fun _ => 0))] [] [0, 1, 2, 3, 4, 5] [] := ⟨rfl, rfl, rfl, rfl, by decide⟩
  refine cont_I C hP hD hS ct_1 (run_V (As := [.int 59]) (rest := []) C hP hD hS ct_1 (a_X3_isSign_11 l D ty rd rh rt r1 r2 r3 x9_1_2 x9_2_3) kV_PinchedBill_Reader_168 0 rfl rfl rfl rfl hl.1 rfl (nle rfl) d_X3_takeSign_2 ⟨by decide, by decide, by decide, by decide⟩) (fun r_3 w_4 H locs hw_2 hP hD hS => ?_)
  obtain ⟨rfl, rfl⟩ := hw_2
  have hP : va_P D vwCl [(rd, eO 3 [.int 0, .int 2, .int 0, .ref rh, .ref rt, .int 0, .int 0, .int 0, .int 0, .int 0, .int 0]), (rh, eO 0 [.int 0, .int 1, .int 0, .int 0, .int 0, .int 0, .int 0, .int 0, .int 0, .int 0, .ref r1, .ref r2, .ref r3]), (rt, eI (ty 1) 900 (fun _ => 0)), (r1, eI (ty 0) 24 x9_1_2), (r2, eI (ty 0) 8 x9_2_3), (r3, eI (ty 0) 900 (fun _ => 0))] H := hP
  have hD : va_D A [(rd, eO 3 [.int 0, .int 2, .int 0, .ref rh, .ref rt, .int 0, .int 0, .int 0, .int 0, .int 0, .int 0]), (rh, eO 0 [.int 0, .int 1, .int 0, .int 0, .int 0, .int 0, .int 0, .int 0, .int 0, .int 0, .ref r1, .ref r2, .ref r3]), (rt, eI (ty 1) 900 (fun _ => 0)), (r1, eI (ty 0) 24 x9_1_2), (r2, eI (ty 0) 8 x9_2_3), (r3, eI (ty 0) 900 (fun _ => 0))] := hD
  refine b_if_eqT C 15 d_X3_takeSign_5 (by decide) (by decide) ?_
  refine lv_aload_n hx hb d_X3_takeSign_15 rfl (lv_at hl 0 rfl) ?_
  refine lv_iconst (v := 2) hx hb d_X3_takeSign_16 (by decide) ?_
  have ct_5 : Cut [(rd, eO 3 [.int 0, .int 2, .int 0, .ref rh, .ref rt, .int 0, .int 0, .int 0, .int 0, .int 0, .int 0]), (rh, eO 0 [.int 0, .int 1, .int 0, .int 0, .int 0, .int 0, .int 0, .int 0, .int 0, .int 0, .ref r1, .ref r2, .ref r3]), (rt, eI (ty 1) 900 (fun _ => 0)), (r1, eI (ty 0) 24 x9_1_2), (r2, eI (ty 0) 8 x9_2_3), (r3, eI (ty 0) 900 (fun _ => 0))] [(rd, eO 3 [.int 0, .int 2, .int 0, .ref rh, .ref rt, .int 0, .int 0, .int 0, .int 0, .int 0, .int 0]), (rh, eO 0 [.int 0, .int 1, .int 0, .int 0, .int 0, .int 0, .int 0, .int 0, .int 0, .int 0, .ref r1, .ref r2, .ref r3]), (rt, eI (ty 1) 900 (fun _ => 0)), (r1, eI (ty 0) 24 x9_1_2), (r2, eI (ty 0) 8 x9_2_3), (r3, eI (ty 0) 900 (fun _ => 0))] [] [0, 1, 2, 3, 4, 5] [] := ⟨rfl, rfl, rfl, rfl, by decide⟩
  refine cont_V C hP hD hS ct_5 (run_V (As := [.int 2]) (rest := []) C hP hD hS ct_5 (a_X3_refuse_8 l D ty rd rh rt r1 r2 r3 x9_1_2 x9_2_3) kV_PinchedBill_Reader_95 0 rfl rfl rfl rfl hl.1 rfl (nle rfl) d_X3_takeSign_17 ⟨by decide, by decide, by decide, by decide⟩) (fun w_8 H locs hw_6 hP hD hS => ?_)
  subst hw_6
  have hP : va_P D vwCl [(rd, eO 3 [.int 0, .int 2, .int 0, .ref rh, .ref rt, .int 0, .int 0, .int 0, .int 0, .int 0, .int 0]), (rh, eO 0 [.int 0, .int 1, .int 0, .int 0, .int 0, .int 0, .int 0, .int 0, .int 0, .int 0, .ref r1, .ref r2, .ref r3]), (rt, eI (ty 1) 900 (fun _ => 0)), (r1, eI (ty 0) 24 x9_1_2), (r2, eI (ty 0) 8 x9_2_3), (r3, eI (ty 0) 900 (fun _ => 0))] H := hP
  have hD : va_D A [(rd, eO 3 [.int 0, .int 2, .int 0, .ref rh, .ref rt, .int 0, .int 0, .int 0, .int 0, .int 0, .int 0]), (rh, eO 0 [.int 0, .int 1, .int 0, .int 0, .int 0, .int 0, .int 0, .int 0, .int 0, .int 0, .ref r1, .ref r2, .ref r3]), (rt, eI (ty 1) 900 (fun _ => 0)), (r1, eI (ty 0) 24 x9_1_2), (r2, eI (ty 0) 8 x9_2_3), (r3, eI (ty 0) 900 (fun _ => 0))] := hD
  exact ret_V (w := [(rd, eO 3 [.int 0, .int 2, .int 0, .ref rh, .ref rt, .int 0, .int 0, .int 0, .int 0, .int 0, .int 0]), (rh, eO 0 [.int 0, .int 1, .int 0, .int 0, .int 0, .int 0, .int 0, .int 0, .int 0, .int 0, .ref r1, .ref r2, .ref r3]), (rt, eI (ty 1) 900 (fun _ => 0)), (r1, eI (ty 0) 24 x9_1_2), (r2, eI (ty 0) 8 x9_2_3), (r3, eI (ty 0) 900 (fun _ => 0))]) C hP hD hS [0, 1, 2, 3, 4, 5] rfl rfl rfl (by decide) (by decide) d_X3_takeSign_20
set_option maxHeartbeats 4000000 in
set_option maxRecDepth 100000 in
theorem a_X3_endLine_11 (l : Launch) (D : va_G) (ty : Nat → ClassId) (rd : Nat) (rh : Nat) (rt : Nat) (r1 : Nat) (r2 : Nat) (r3 : Nat) (x9_1_2 : Nat → Int32) (x9_2_3 : Nat → Int32) : CC l D ty ⟨"PinchedBill$Reader", "endLine", "()V"⟩ prog_5_method_4_code 1 none 2 42 0 0 [.ref rd] [(rd, eO 3 [.int 0, .int 2, .int 0, .ref rh, .ref rt, .int 0, .int 0, .int 0, .int 0, .int 0, .int 0]), (rh, eO 0 [.int 0, .int 1, .int 0, .int 0, .int 0, .int 0, .int 0, .int 0, .int 0, .int 0, .ref r1, .ref r2, .ref r3]), (rt, eI (ty 1) 900 (fun _ => 0)), (r1, eI (ty 0) 24 x9_1_2), (r2, eI (ty 0) 8 x9_2_3), (r3, eI (ty 0) 900 (fun _ => 0))] (QV D ty (fun (w : va_W) => w = [(rd, eO 3 [.int 0, .int 2, .int 0, .ref rh, .ref rt, .int 0, .int 0, .int 0, .int 0, .int 0, .int 0]), (rh, eO 0 [.int 1, .int 1, .int 0, .int 0, .int 0, .int 0, .int 0, .int 0, .int 0, .int 0, .ref r1, .ref r2, .ref r3]), (rt, eI (ty 1) 900 (fun _ => 0)), (r1, eI (ty 0) 24 x9_1_2), (r2, eI (ty 0) 8 x9_2_3), (r3, eI (ty 0) 900 (fun _ => 0))])) := by
  refine CC_of (by decide) ?_
  intro p e s m below meth c A C hP hD hS
  obtain ⟨⟨hx, hb, hml, hown, hts⟩, hr, hlocks, hnm, hK, hE, hA, hZ⟩ := id C
  refine startW [.ref rd] 1 (nle rfl) (lv := [(0, .ref rd)]) rfl (fun ls hl => ?_)
  refine lv_aload_n hx hb d_X3_endLine_0 rfl (lv_at hl 0 rfl) ?_
  refine lv_bipush (v := 59) hx hb d_X3_endLine_1 (by decide) ?_
  have ct_1 : Cut [(rd, eO 3 [.int 0, .int 2, .int 0, .ref rh, .ref rt, .int 0, .int 0, .int 0, .int 0, .int 0, .int 0]), (rh, eO 0 [.int 0, .int 1, .int 0, .int 0, .int 0, .int 0, .int 0, .int 0, .int 0, .int 0, .ref r1, .ref r2, .ref r3]), (rt, eI (ty 1) 900 (fun _ => 0)), (r1, eI (ty 0) 24 x9_1_2), (r2, eI (ty 0) 8 x9_2_3), (r3, eI (ty 0) 900 (fun _ => 0))] [(rd, eO 3 [.int 0, .int 2, .int 0, .ref rh, .ref rt, .int 0, .int 0, .int 0, .int 0, .int 0, .int 0]), (rh, eO 0 [.int 0, .int 1, .int 0, .int 0, .int 0, .int 0, .int 0, .int 0, .int 0, .int 0, .ref r1, .ref r2, .ref r3]), (rt, eI (ty 1) 900 (fun _ => 0)), (r1, eI (ty 0) 24 x9_1_2), (r2, eI (ty 0) 8 x9_2_3), (r3, eI (ty 0) 900 (fun _ => 0))] [] [0, 1, 2, 3, 4, 5] [] := ⟨rfl, rfl, rfl, rfl, by decide⟩
  refine cont_V C hP hD hS ct_1 (run_V (As := [.int 59]) (rest := []) C hP hD hS ct_1 (a_X3_takeSign_11 l D ty rd rh rt r1 r2 r3 x9_1_2 x9_2_3) kV_PinchedBill_Reader_85 0 rfl rfl rfl rfl hl.1 rfl (nle rfl) d_X3_endLine_3 ⟨by decide, by decide, by decide, by decide⟩) (fun w_4 H locs hw_2 hP hD hS => ?_)
  subst hw_2
  have hP : va_P D vwCl [(rd, eO 3 [.int 0, .int 2, .int 0, .ref rh, .ref rt, .int 0, .int 0, .int 0, .int 0, .int 0, .int 0]), (rh, eO 0 [.int 0, .int 1, .int 0, .int 0, .int 0, .int 0, .int 0, .int 0, .int 0, .int 0, .ref r1, .ref r2, .ref r3]), (rt, eI (ty 1) 900 (fun _ => 0)), (r1, eI (ty 0) 24 x9_1_2), (r2, eI (ty 0) 8 x9_2_3), (r3, eI (ty 0) 900 (fun _ => 0))] H := hP
  have hD : va_D A [(rd, eO 3 [.int 0, .int 2, .int 0, .ref rh, .ref rt, .int 0, .int 0, .int 0, .int 0, .int 0, .int 0]), (rh, eO 0 [.int 0, .int 1, .int 0, .int 0, .int 0, .int 0, .int 0, .int 0, .int 0, .int 0, .ref r1, .ref r2, .ref r3]), (rt, eI (ty 1) 900 (fun _ => 0)), (r1, eI (ty 0) 24 x9_1_2), (r2, eI (ty 0) 8 x9_2_3), (r3, eI (ty 0) 900 (fun _ => 0))] := hD
  refine lv_aload_n hx hb d_X3_endLine_6 rfl (lv_at hl 0 rfl) ?_
  refine r_get (v := .ref rh) C hP 0 rfl rfl lay_X3 3 (by decide) k_232 rfl d_X3_endLine_7 ?_
  refine lv_dup hx hb d_X3_endLine_10 rfl ?_
  refine r_get (v := .int 0) C hP 1 rfl rfl lay_X0 0 (by decide) k_165 rfl d_X3_endLine_11 ?_
  refine lv_iconst (v := 1) hx hb d_X3_endLine_14 (by decide) ?_
  refine r_iadd (z := 1) C d_X3_endLine_15 (by decide) ?_
  refine r_put (w := [(rd, eO 3 [.int 0, .int 2, .int 0, .ref rh, .ref rt, .int 0, .int 0, .int 0, .int 0, .int 0, .int 0]), (rh, eO 0 [.int 1, .int 1, .int 0, .int 0, .int 0, .int 0, .int 0, .int 0, .int 0, .int 0, .ref r1, .ref r2, .ref r3]), (rt, eI (ty 1) 900 (fun _ => 0)), (r1, eI (ty 0) 24 x9_1_2), (r2, eI (ty 0) 8 x9_2_3), (r3, eI (ty 0) 900 (fun _ => 0))]) C hP hD hS 1 rfl rfl lay_X0 tok_X0 nmo_X0 0 (by decide) k_165 rfl rfl rfl (nle rfl) rfl d_X3_endLine_16 (fun H locs hP hD hS => ?_)
  exact ret_V (w := [(rd, eO 3 [.int 0, .int 2, .int 0, .ref rh, .ref rt, .int 0, .int 0, .int 0, .int 0, .int 0, .int 0]), (rh, eO 0 [.int 1, .int 1, .int 0, .int 0, .int 0, .int 0, .int 0, .int 0, .int 0, .int 0, .ref r1, .ref r2, .ref r3]), (rt, eI (ty 1) 900 (fun _ => 0)), (r1, eI (ty 0) 24 x9_1_2), (r2, eI (ty 0) 8 x9_2_3), (r3, eI (ty 0) 900 (fun _ => 0))]) C hP hD hS [0, 1, 2, 3, 4, 5] rfl rfl rfl (by decide) (by decide) d_X3_endLine_19
set_option maxHeartbeats 4000000 in
set_option maxRecDepth 100000 in
theorem a_X3_readsHouse_1 (l : Launch) (D : va_G) (ty : Nat → ClassId) (rd : Nat) (rh : Nat) (rt : Nat) (r1 : Nat) (r2 : Nat) (r3 : Nat) : CC l D ty ⟨"PinchedBill$Reader", "readsHouse", "(I)Z"⟩ prog_5_method_3_code 3 (some .boolean) 3 62 0 0 [.ref rd, .int 0] [(rd, eO 3 [.int 0, .int 0, .int (-1), .ref rh, .ref rt, .int 0, .int 0, .int 0, .int 0, .int 0, .int 0]), (rh, eO 0 [.int 0, .int 1, .int 0, .int 0, .int 0, .int 0, .int 0, .int 0, .int 0, .int 0, .ref r1, .ref r2, .ref r3]), (rt, eI (ty 1) 900 (fun _ => 0)), (r1, eI (ty 0) 24 (fun _ => 0)), (r2, eI (ty 0) 8 (fun _ => 0)), (r3, eI (ty 0) 900 (fun _ => 0))] (QI D ty (fun (r : Int32) (w : va_W) => ∃ (x9_1 : Nat → Int32) (x9_2 : Nat → Int32), 0 = r ∧ w = [(rd, eO 3 [.int 0, .int 2, .int 0, .ref rh, .ref rt, .int 0, .int 0, .int 0, .int 0, .int 0, .int 0]), (rh, eO 0 [.int 1, .int 1, .int 0, .int 0, .int 0, .int 0, .int 0, .int 0, .int 0, .int 0, .ref r1, .ref r2, .ref r3]), (rt, eI (ty 1) 900 (fun _ => 0)), (r1, eI (ty 0) 24 x9_1), (r2, eI (ty 0) 8 x9_2), (r3, eI (ty 0) 900 (fun _ => 0))])) := by
  refine CC_of (by decide) ?_
  intro p e s m below meth c A C hP hD hS
  obtain ⟨⟨hx, hb, hml, hown, hts⟩, hr, hlocks, hnm, hK, hE, hA, hZ⟩ := id C
  refine startW [.ref rd, .int 0] 3 (nle rfl) (lv := [(0, .ref rd), (1, .int 0)]) rfl (fun ls hl => ?_)
  refine lv_aload_n hx hb d_X3_readsHouse_0 rfl (lv_at hl 0 rfl) ?_
  refine lv_iconst (v := 0) hx hb d_X3_readsHouse_1 (by decide) ?_
  refine r_put (w := [(rd, eO 3 [.int 0, .int 0, .int (-1), .ref rh, .ref rt, .int 0, .int 0, .int 0, .int 0, .int 0, .int 0]), (rh, eO 0 [.int 0, .int 1, .int 0, .int 0, .int 0, .int 0, .int 0, .int 0, .int 0, .int 0, .ref r1, .ref r2, .ref r3]), (rt, eI (ty 1) 900 (fun _ => 0)), (r1, eI (ty 0) 24 (fun _ => 0)), (r2, eI (ty 0) 8 (fun _ => 0)), (r3, eI (ty 0) 900 (fun _ => 0))]) C hP hD hS 0 rfl rfl lay_X3 tok_X3 nmo_X3 0 (by decide) k_227 rfl rfl rfl (nle rfl) rfl d_X3_readsHouse_2 (fun H locs hP hD hS => ?_)
  refine lv_aload_n hx hb d_X3_readsHouse_5 rfl (lv_at hl 0 rfl) ?_
  refine lv_iconst (v := 0) hx hb d_X3_readsHouse_6 (by decide) ?_
  refine r_put (w := [(rd, eO 3 [.int 0, .int 0, .int (-1), .ref rh, .ref rt, .int 0, .int 0, .int 0, .int 0, .int 0, .int 0]), (rh, eO 0 [.int 0, .int 1, .int 0, .int 0, .int 0, .int 0, .int 0, .int 0, .int 0, .int 0, .ref r1, .ref r2, .ref r3]), (rt, eI (ty 1) 900 (fun _ => 0)), (r1, eI (ty 0) 24 (fun _ => 0)), (r2, eI (ty 0) 8 (fun _ => 0)), (r3, eI (ty 0) 900 (fun _ => 0))]) C hP hD hS 0 rfl rfl lay_X3 tok_X3 nmo_X3 1 (by decide) k_228 rfl rfl rfl (nle rfl) rfl d_X3_readsHouse_7 (fun H locs hP hD hS => ?_)
  refine lv_aload_n hx hb d_X3_readsHouse_10 rfl (lv_at hl 0 rfl) ?_
  refine lv_iconst (v := (-1)) hx hb d_X3_readsHouse_11 (by decide) ?_
  refine r_put (w := [(rd, eO 3 [.int 0, .int 0, .int (-1), .ref rh, .ref rt, .int 0, .int 0, .int 0, .int 0, .int 0, .int 0]), (rh, eO 0 [.int 0, .int 1, .int 0, .int 0, .int 0, .int 0, .int 0, .int 0, .int 0, .int 0, .ref r1, .ref r2, .ref r3]), (rt, eI (ty 1) 900 (fun _ => 0)), (r1, eI (ty 0) 24 (fun _ => 0)), (r2, eI (ty 0) 8 (fun _ => 0)), (r3, eI (ty 0) 900 (fun _ => 0))]) C hP hD hS 0 rfl rfl lay_X3 tok_X3 nmo_X3 2 (by decide) k_230 rfl rfl rfl (nle rfl) rfl d_X3_readsHouse_12 (fun H locs hP hD hS => ?_)
  refine lv_aload_n hx hb d_X3_readsHouse_15 rfl (lv_at hl 0 rfl) ?_
  refine lv_iload_n hx hb d_X3_readsHouse_16 rfl (lv_at hl 1 rfl) ?_
  refine lv_sipush (v := 900) hx hb d_X3_readsHouse_17 (by decide) ?_
  refine va_mmin hx hb (hml.trans hl.1.symm) hown (hts _ k_736) (hts _ k_566) (hts _ k_123) (hts _ k_567) (by decide) (nle rfl) (by decide) (by decide) d_X3_readsHouse_20 (W.eq (g2 := F0 m 23 ls [.int 0, .ref rd]) (by rfl) ?_)
  refine r_put (w := [(rd, eO 3 [.int 0, .int 0, .int (-1), .ref rh, .ref rt, .int 0, .int 0, .int 0, .int 0, .int 0, .int 0]), (rh, eO 0 [.int 0, .int 1, .int 0, .int 0, .int 0, .int 0, .int 0, .int 0, .int 0, .int 0, .ref r1, .ref r2, .ref r3]), (rt, eI (ty 1) 900 (fun _ => 0)), (r1, eI (ty 0) 24 (fun _ => 0)), (r2, eI (ty 0) 8 (fun _ => 0)), (r3, eI (ty 0) 900 (fun _ => 0))]) C hP hD hS 0 rfl rfl lay_X3 tok_X3 nmo_X3 5 (by decide) k_235 rfl rfl rfl (nle rfl) rfl d_X3_readsHouse_23 (fun H locs hP hD hS => ?_)
  refine lv_aload_n hx hb d_X3_readsHouse_26 rfl (lv_at hl 0 rfl) ?_
  refine lv_iconst (v := 0) hx hb d_X3_readsHouse_27 (by decide) ?_
  refine r_put (w := [(rd, eO 3 [.int 0, .int 0, .int (-1), .ref rh, .ref rt, .int 0, .int 0, .int 0, .int 0, .int 0, .int 0]), (rh, eO 0 [.int 0, .int 1, .int 0, .int 0, .int 0, .int 0, .int 0, .int 0, .int 0, .int 0, .ref r1, .ref r2, .ref r3]), (rt, eI (ty 1) 900 (fun _ => 0)), (r1, eI (ty 0) 24 (fun _ => 0)), (r2, eI (ty 0) 8 (fun _ => 0)), (r3, eI (ty 0) 900 (fun _ => 0))]) C hP hD hS 0 rfl rfl lay_X3 tok_X3 nmo_X3 8 (by decide) k_238 rfl rfl rfl (nle rfl) rfl d_X3_readsHouse_28 (fun H locs hP hD hS => ?_)
  refine lv_aload_n hx hb d_X3_readsHouse_31 rfl (lv_at hl 0 rfl) ?_
  refine r_get (v := .ref rh) C hP 0 rfl rfl lay_X3 3 (by decide) k_232 rfl d_X3_readsHouse_32 ?_
  have ct_1 : Cut [(rd, eO 3 [.int 0, .int 0, .int (-1), .ref rh, .ref rt, .int 0, .int 0, .int 0, .int 0, .int 0, .int 0]), (rh, eO 0 [.int 0, .int 1, .int 0, .int 0, .int 0, .int 0, .int 0, .int 0, .int 0, .int 0, .ref r1, .ref r2, .ref r3]), (rt, eI (ty 1) 900 (fun _ => 0)), (r1, eI (ty 0) 24 (fun _ => 0)), (r2, eI (ty 0) 8 (fun _ => 0)), (r3, eI (ty 0) 900 (fun _ => 0))] [(rh, eO 0 [.int 0, .int 1, .int 0, .int 0, .int 0, .int 0, .int 0, .int 0, .int 0, .int 0, .ref r1, .ref r2, .ref r3]), (r1, eI (ty 0) 24 (fun _ => 0)), (r2, eI (ty 0) 8 (fun _ => 0)), (r3, eI (ty 0) 900 (fun _ => 0))] [(rd, eO 3 [.int 0, .int 0, .int (-1), .ref rh, .ref rt, .int 0, .int 0, .int 0, .int 0, .int 0, .int 0]), (rt, eI (ty 1) 900 (fun _ => 0))] [1, 3, 4, 5] [0, 2] := ⟨rfl, rfl, rfl, rfl, by decide⟩
  refine cont_V C hP hD hS ct_1 (run_V (As := []) (rest := []) C hP hD hS ct_1 (a_X0_clear_1 l D ty rh r1 r2 r3) kV_PinchedBill_Reader_44 1 rfl rfl rfl rfl hl.1 rfl (nle rfl) d_X3_readsHouse_35 ⟨by decide, by decide, by decide, by decide⟩) (fun w_6 H locs hw_4 hP hD hS => ?_)
  obtain ⟨x9_1_2, x9_2_3, rfl⟩ := hw_4
  have hP : va_P D vwCl [(rd, eO 3 [.int 0, .int 0, .int (-1), .ref rh, .ref rt, .int 0, .int 0, .int 0, .int 0, .int 0, .int 0]), (rt, eI (ty 1) 900 (fun _ => 0)), (rh, eO 0 [.int 0, .int 1, .int 0, .int 0, .int 0, .int 0, .int 0, .int 0, .int 0, .int 0, .ref r1, .ref r2, .ref r3]), (r3, eI (ty 0) 900 (fun _ => 0)), (r1, eI (ty 0) 24 x9_1_2), (r2, eI (ty 0) 8 x9_2_3)] H := hP
  have hD : va_D A [(rd, eO 3 [.int 0, .int 0, .int (-1), .ref rh, .ref rt, .int 0, .int 0, .int 0, .int 0, .int 0, .int 0]), (rt, eI (ty 1) 900 (fun _ => 0)), (rh, eO 0 [.int 0, .int 1, .int 0, .int 0, .int 0, .int 0, .int 0, .int 0, .int 0, .int 0, .ref r1, .ref r2, .ref r3]), (r3, eI (ty 0) 900 (fun _ => 0)), (r1, eI (ty 0) 24 x9_1_2), (r2, eI (ty 0) 8 x9_2_3)] := hD
  refine lv_aload_n hx hb d_X3_readsHouse_38 rfl (lv_at hl 0 rfl) ?_
  have ct_7 : Cut [(rd, eO 3 [.int 0, .int 0, .int (-1), .ref rh, .ref rt, .int 0, .int 0, .int 0, .int 0, .int 0, .int 0]), (rt, eI (ty 1) 900 (fun _ => 0)), (rh, eO 0 [.int 0, .int 1, .int 0, .int 0, .int 0, .int 0, .int 0, .int 0, .int 0, .int 0, .ref r1, .ref r2, .ref r3]), (r3, eI (ty 0) 900 (fun _ => 0)), (r1, eI (ty 0) 24 x9_1_2), (r2, eI (ty 0) 8 x9_2_3)] [(rd, eO 3 [.int 0, .int 0, .int (-1), .ref rh, .ref rt, .int 0, .int 0, .int 0, .int 0, .int 0, .int 0]), (rh, eO 0 [.int 0, .int 1, .int 0, .int 0, .int 0, .int 0, .int 0, .int 0, .int 0, .int 0, .ref r1, .ref r2, .ref r3]), (rt, eI (ty 1) 900 (fun _ => 0)), (r1, eI (ty 0) 24 x9_1_2), (r2, eI (ty 0) 8 x9_2_3), (r3, eI (ty 0) 900 (fun _ => 0))] [] [0, 2, 1, 4, 5, 3] [] := ⟨rfl, rfl, rfl, rfl, by decide⟩
  refine cont_V C hP hD hS ct_7 (run_V (As := []) (rest := []) C hP hD hS ct_7 (a_X3_advance_2 l D ty rd rh rt r1 r2 r3 x9_1_2 x9_2_3) kV_PinchedBill_Reader_47 0 rfl rfl rfl rfl hl.1 rfl (nle rfl) d_X3_readsHouse_39 ⟨by decide, by decide, by decide, by decide⟩) (fun w_10 H locs hw_8 hP hD hS => ?_)
  subst hw_8
  have hP : va_P D vwCl [(rd, eO 3 [.int 0, .int 0, .int (-1), .ref rh, .ref rt, .int 0, .int 0, .int 0, .int 0, .int 0, .int 0]), (rh, eO 0 [.int 0, .int 1, .int 0, .int 0, .int 0, .int 0, .int 0, .int 0, .int 0, .int 0, .ref r1, .ref r2, .ref r3]), (rt, eI (ty 1) 900 (fun _ => 0)), (r1, eI (ty 0) 24 x9_1_2), (r2, eI (ty 0) 8 x9_2_3), (r3, eI (ty 0) 900 (fun _ => 0))] H := hP
  have hD : va_D A [(rd, eO 3 [.int 0, .int 0, .int (-1), .ref rh, .ref rt, .int 0, .int 0, .int 0, .int 0, .int 0, .int 0]), (rh, eO 0 [.int 0, .int 1, .int 0, .int 0, .int 0, .int 0, .int 0, .int 0, .int 0, .int 0, .ref r1, .ref r2, .ref r3]), (rt, eI (ty 1) 900 (fun _ => 0)), (r1, eI (ty 0) 24 x9_1_2), (r2, eI (ty 0) 8 x9_2_3), (r3, eI (ty 0) 900 (fun _ => 0))] := hD
  refine lv_aload_n hx hb d_X3_readsHouse_42 rfl (lv_at hl 0 rfl) ?_
  obtain ⟨sa_11, hsa_12⟩ := hE.2.2.2.1 ("PinchedBill$Reader", 50, "house") (by decide +kernel)
  refine va_ldcS hx hb hown hsa_12 d_X3_readsHouse_43 ?_
  have ct_13 : Cut [(rd, eO 3 [.int 0, .int 0, .int (-1), .ref rh, .ref rt, .int 0, .int 0, .int 0, .int 0, .int 0, .int 0]), (rh, eO 0 [.int 0, .int 1, .int 0, .int 0, .int 0, .int 0, .int 0, .int 0, .int 0, .int 0, .ref r1, .ref r2, .ref r3]), (rt, eI (ty 1) 900 (fun _ => 0)), (r1, eI (ty 0) 24 x9_1_2), (r2, eI (ty 0) 8 x9_2_3), (r3, eI (ty 0) 900 (fun _ => 0))] [(rd, eO 3 [.int 0, .int 0, .int (-1), .ref rh, .ref rt, .int 0, .int 0, .int 0, .int 0, .int 0, .int 0]), (rh, eO 0 [.int 0, .int 1, .int 0, .int 0, .int 0, .int 0, .int 0, .int 0, .int 0, .int 0, .ref r1, .ref r2, .ref r3]), (rt, eI (ty 1) 900 (fun _ => 0)), (r1, eI (ty 0) 24 x9_1_2), (r2, eI (ty 0) 8 x9_2_3), (r3, eI (ty 0) 900 (fun _ => 0))] [] [0, 1, 2, 3, 4, 5] [] := ⟨rfl, rfl, rfl, rfl, by decide⟩
  refine cont_V C hP hD hS ct_13 (run_V (As := [.ref sa_11]) (rest := []) C hP hD hS ct_13 (a_X3_takeWord_4 l D ty rd rh rt r1 r2 r3 sa_11 x9_1_2 x9_2_3) kV_PinchedBill_Reader_51 0 rfl rfl rfl rfl hl.1 rfl (nle rfl) d_X3_readsHouse_45 ⟨by decide, by decide, by decide, by decide⟩) (fun w_16 H locs hw_14 hP hD hS => ?_)
  subst hw_14
  have hP : va_P D vwCl [(rd, eO 3 [.int 0, .int 2, .int 0, .ref rh, .ref rt, .int 0, .int 0, .int 0, .int 0, .int 0, .int 0]), (rh, eO 0 [.int 0, .int 1, .int 0, .int 0, .int 0, .int 0, .int 0, .int 0, .int 0, .int 0, .ref r1, .ref r2, .ref r3]), (rt, eI (ty 1) 900 (fun _ => 0)), (r1, eI (ty 0) 24 x9_1_2), (r2, eI (ty 0) 8 x9_2_3), (r3, eI (ty 0) 900 (fun _ => 0))] H := hP
  have hD : va_D A [(rd, eO 3 [.int 0, .int 2, .int 0, .ref rh, .ref rt, .int 0, .int 0, .int 0, .int 0, .int 0, .int 0]), (rh, eO 0 [.int 0, .int 1, .int 0, .int 0, .int 0, .int 0, .int 0, .int 0, .int 0, .int 0, .ref r1, .ref r2, .ref r3]), (rt, eI (ty 1) 900 (fun _ => 0)), (r1, eI (ty 0) 24 x9_1_2), (r2, eI (ty 0) 8 x9_2_3), (r3, eI (ty 0) 900 (fun _ => 0))] := hD
  refine lv_aload_n hx hb d_X3_readsHouse_48 rfl (lv_at hl 0 rfl) ?_
  obtain ⟨sa_17, hsa_18⟩ := hE.2.2.2.1 ("PinchedBill$Reader", 55, "lines") (by decide +kernel)
  refine va_ldcS hx hb hown hsa_18 d_X3_readsHouse_49 ?_
  have ct_19 : Cut [(rd, eO 3 [.int 0, .int 2, .int 0, .ref rh, .ref rt, .int 0, .int 0, .int 0, .int 0, .int 0, .int 0]), (rh, eO 0 [.int 0, .int 1, .int 0, .int 0, .int 0, .int 0, .int 0, .int 0, .int 0, .int 0, .ref r1, .ref r2, .ref r3]), (rt, eI (ty 1) 900 (fun _ => 0)), (r1, eI (ty 0) 24 x9_1_2), (r2, eI (ty 0) 8 x9_2_3), (r3, eI (ty 0) 900 (fun _ => 0))] [(rd, eO 3 [.int 0, .int 2, .int 0, .ref rh, .ref rt, .int 0, .int 0, .int 0, .int 0, .int 0, .int 0]), (rh, eO 0 [.int 0, .int 1, .int 0, .int 0, .int 0, .int 0, .int 0, .int 0, .int 0, .int 0, .ref r1, .ref r2, .ref r3]), (rt, eI (ty 1) 900 (fun _ => 0)), (r1, eI (ty 0) 24 x9_1_2), (r2, eI (ty 0) 8 x9_2_3), (r3, eI (ty 0) 900 (fun _ => 0))] [] [0, 1, 2, 3, 4, 5] [] := ⟨rfl, rfl, rfl, rfl, by decide⟩
  refine cont_V C hP hD hS ct_19 (run_V (As := [.ref sa_17]) (rest := []) C hP hD hS ct_19 (a_X3_takeWord_7 l D ty rd rh rt r1 r2 r3 sa_17 x9_1_2 x9_2_3) kV_PinchedBill_Reader_51 0 rfl rfl rfl rfl hl.1 rfl (nle rfl) d_X3_readsHouse_51 ⟨by decide, by decide, by decide, by decide⟩) (fun w_22 H locs hw_20 hP hD hS => ?_)
  subst hw_20
  have hP : va_P D vwCl [(rd, eO 3 [.int 0, .int 2, .int 0, .ref rh, .ref rt, .int 0, .int 0, .int 0, .int 0, .int 0, .int 0]), (rh, eO 0 [.int 0, .int 1, .int 0, .int 0, .int 0, .int 0, .int 0, .int 0, .int 0, .int 0, .ref r1, .ref r2, .ref r3]), (rt, eI (ty 1) 900 (fun _ => 0)), (r1, eI (ty 0) 24 x9_1_2), (r2, eI (ty 0) 8 x9_2_3), (r3, eI (ty 0) 900 (fun _ => 0))] H := hP
  have hD : va_D A [(rd, eO 3 [.int 0, .int 2, .int 0, .ref rh, .ref rt, .int 0, .int 0, .int 0, .int 0, .int 0, .int 0]), (rh, eO 0 [.int 0, .int 1, .int 0, .int 0, .int 0, .int 0, .int 0, .int 0, .int 0, .int 0, .ref r1, .ref r2, .ref r3]), (rt, eI (ty 1) 900 (fun _ => 0)), (r1, eI (ty 0) 24 x9_1_2), (r2, eI (ty 0) 8 x9_2_3), (r3, eI (ty 0) 900 (fun _ => 0))] := hD
  refine lv_aload_n hx hb d_X3_readsHouse_54 rfl (lv_at hl 0 rfl) ?_
  refine r_get (v := .ref rh) C hP 0 rfl rfl lay_X3 3 (by decide) k_232 rfl d_X3_readsHouse_55 ?_
  refine lv_aload_n hx hb d_X3_readsHouse_58 rfl (lv_at hl 0 rfl) ?_
  refine lv_iconst (v := 1) hx hb d_X3_readsHouse_59 (by decide) ?_
  refine lv_iconst (v := 3) hx hb d_X3_readsHouse_60 (by decide) ?_
  have ct_23 : Cut [(rd, eO 3 [.int 0, .int 2, .int 0, .ref rh, .ref rt, .int 0, .int 0, .int 0, .int 0, .int 0, .int 0]), (rh, eO 0 [.int 0, .int 1, .int 0, .int 0, .int 0, .int 0, .int 0, .int 0, .int 0, .int 0, .ref r1, .ref r2, .ref r3]), (rt, eI (ty 1) 900 (fun _ => 0)), (r1, eI (ty 0) 24 x9_1_2), (r2, eI (ty 0) 8 x9_2_3), (r3, eI (ty 0) 900 (fun _ => 0))] [(rd, eO 3 [.int 0, .int 2, .int 0, .ref rh, .ref rt, .int 0, .int 0, .int 0, .int 0, .int 0, .int 0]), (rh, eO 0 [.int 0, .int 1, .int 0, .int 0, .int 0, .int 0, .int 0, .int 0, .int 0, .int 0, .ref r1, .ref r2, .ref r3]), (rt, eI (ty 1) 900 (fun _ => 0)), (r1, eI (ty 0) 24 x9_1_2), (r2, eI (ty 0) 8 x9_2_3), (r3, eI (ty 0) 900 (fun _ => 0))] [] [0, 1, 2, 3, 4, 5] [] := ⟨rfl, rfl, rfl, rfl, by decide⟩
  refine cont_I C hP hD hS ct_23 (run_V (As := [.int 1, .int 3]) (rest := [.ref rh]) C hP hD hS ct_23 (a_X3_takeNumber_10 l D ty rd rh rt r1 r2 r3 x9_1_2 x9_2_3) kV_PinchedBill_Reader_57 0 rfl rfl rfl rfl hl.1 rfl (nle rfl) d_X3_readsHouse_61 ⟨by decide, by decide, by decide, by decide⟩) (fun r_25 w_26 H locs hw_24 hP hD hS => ?_)
  obtain ⟨rfl, rfl⟩ := hw_24
  have hP : va_P D vwCl [(rd, eO 3 [.int 0, .int 2, .int 0, .ref rh, .ref rt, .int 0, .int 0, .int 0, .int 0, .int 0, .int 0]), (rh, eO 0 [.int 0, .int 1, .int 0, .int 0, .int 0, .int 0, .int 0, .int 0, .int 0, .int 0, .ref r1, .ref r2, .ref r3]), (rt, eI (ty 1) 900 (fun _ => 0)), (r1, eI (ty 0) 24 x9_1_2), (r2, eI (ty 0) 8 x9_2_3), (r3, eI (ty 0) 900 (fun _ => 0))] H := hP
  have hD : va_D A [(rd, eO 3 [.int 0, .int 2, .int 0, .ref rh, .ref rt, .int 0, .int 0, .int 0, .int 0, .int 0, .int 0]), (rh, eO 0 [.int 0, .int 1, .int 0, .int 0, .int 0, .int 0, .int 0, .int 0, .int 0, .int 0, .ref r1, .ref r2, .ref r3]), (rt, eI (ty 1) 900 (fun _ => 0)), (r1, eI (ty 0) 24 x9_1_2), (r2, eI (ty 0) 8 x9_2_3), (r3, eI (ty 0) 900 (fun _ => 0))] := hD
  refine r_put (w := [(rd, eO 3 [.int 0, .int 2, .int 0, .ref rh, .ref rt, .int 0, .int 0, .int 0, .int 0, .int 0, .int 0]), (rh, eO 0 [.int 0, .int 1, .int 0, .int 0, .int 0, .int 0, .int 0, .int 0, .int 0, .int 0, .ref r1, .ref r2, .ref r3]), (rt, eI (ty 1) 900 (fun _ => 0)), (r1, eI (ty 0) 24 x9_1_2), (r2, eI (ty 0) 8 x9_2_3), (r3, eI (ty 0) 900 (fun _ => 0))]) C hP hD hS 1 rfl rfl lay_X0 tok_X0 nmo_X0 1 (by decide) k_167 rfl rfl rfl (nle rfl) rfl d_X3_readsHouse_64 (fun H locs hP hD hS => ?_)
  refine lv_aload_n hx hb d_X3_readsHouse_67 rfl (lv_at hl 0 rfl) ?_
  have ct_27 : Cut [(rd, eO 3 [.int 0, .int 2, .int 0, .ref rh, .ref rt, .int 0, .int 0, .int 0, .int 0, .int 0, .int 0]), (rh, eO 0 [.int 0, .int 1, .int 0, .int 0, .int 0, .int 0, .int 0, .int 0, .int 0, .int 0, .ref r1, .ref r2, .ref r3]), (rt, eI (ty 1) 900 (fun _ => 0)), (r1, eI (ty 0) 24 x9_1_2), (r2, eI (ty 0) 8 x9_2_3), (r3, eI (ty 0) 900 (fun _ => 0))] [(rd, eO 3 [.int 0, .int 2, .int 0, .ref rh, .ref rt, .int 0, .int 0, .int 0, .int 0, .int 0, .int 0]), (rh, eO 0 [.int 0, .int 1, .int 0, .int 0, .int 0, .int 0, .int 0, .int 0, .int 0, .int 0, .ref r1, .ref r2, .ref r3]), (rt, eI (ty 1) 900 (fun _ => 0)), (r1, eI (ty 0) 24 x9_1_2), (r2, eI (ty 0) 8 x9_2_3), (r3, eI (ty 0) 900 (fun _ => 0))] [] [0, 1, 2, 3, 4, 5] [] := ⟨rfl, rfl, rfl, rfl, by decide⟩
  refine cont_V C hP hD hS ct_27 (run_V (As := []) (rest := []) C hP hD hS ct_27 (a_X3_endLine_11 l D ty rd rh rt r1 r2 r3 x9_1_2 x9_2_3) kV_PinchedBill_Reader_62 0 rfl rfl rfl rfl hl.1 rfl (nle rfl) d_X3_readsHouse_68 ⟨by decide, by decide, by decide, by decide⟩) (fun w_30 H locs hw_28 hP hD hS => ?_)
  subst hw_28
  have hP : va_P D vwCl [(rd, eO 3 [.int 0, .int 2, .int 0, .ref rh, .ref rt, .int 0, .int 0, .int 0, .int 0, .int 0, .int 0]), (rh, eO 0 [.int 1, .int 1, .int 0, .int 0, .int 0, .int 0, .int 0, .int 0, .int 0, .int 0, .ref r1, .ref r2, .ref r3]), (rt, eI (ty 1) 900 (fun _ => 0)), (r1, eI (ty 0) 24 x9_1_2), (r2, eI (ty 0) 8 x9_2_3), (r3, eI (ty 0) 900 (fun _ => 0))] H := hP
  have hD : va_D A [(rd, eO 3 [.int 0, .int 2, .int 0, .ref rh, .ref rt, .int 0, .int 0, .int 0, .int 0, .int 0, .int 0]), (rh, eO 0 [.int 1, .int 1, .int 0, .int 0, .int 0, .int 0, .int 0, .int 0, .int 0, .int 0, .ref r1, .ref r2, .ref r3]), (rt, eI (ty 1) 900 (fun _ => 0)), (r1, eI (ty 0) 24 x9_1_2), (r2, eI (ty 0) 8 x9_2_3), (r3, eI (ty 0) 900 (fun _ => 0))] := hD
  refine lv_iconst (v := 0) hx hb d_X3_readsHouse_71 (by decide) ?_
  refine lv_istore_n (lv' := [(2, .int 0), (0, .ref rd), (1, .int 0)]) hx hb d_X3_readsHouse_72 rfl hl (by decide) rfl (fun ls hl => ?_)
  refine lv_iload_n hx hb d_X3_readsHouse_73 rfl (lv_at hl 0 rfl) ?_
  refine lv_sipush (v := 900) hx hb d_X3_readsHouse_74 (by decide) ?_
  refine b_icmp_geF C 140 d_X3_readsHouse_77 (by decide) (by decide) ?_
  refine lv_aload_n hx hb d_X3_readsHouse_80 rfl (lv_at hl 1 rfl) ?_
  refine r_get (v := .int 2) C hP 0 rfl rfl lay_X3 1 (by decide) k_228 rfl d_X3_readsHouse_81 ?_
  refine b_if_neT C 140 d_X3_readsHouse_84 (by decide) (by decide) ?_
  refine lv_aload_n hx hb d_X3_readsHouse_140 rfl (lv_at hl 1 rfl) ?_
  refine r_get (v := .int 2) C hP 0 rfl rfl lay_X3 1 (by decide) k_228 rfl d_X3_readsHouse_141 ?_
  refine b_if_neT C 151 d_X3_readsHouse_144 (by decide) (by decide) ?_
  refine lv_iconst (v := 0) hx hb d_X3_readsHouse_151 (by decide) ?_
  exact ret_Z (w := [(rd, eO 3 [.int 0, .int 2, .int 0, .ref rh, .ref rt, .int 0, .int 0, .int 0, .int 0, .int 0, .int 0]), (rh, eO 0 [.int 1, .int 1, .int 0, .int 0, .int 0, .int 0, .int 0, .int 0, .int 0, .int 0, .ref r1, .ref r2, .ref r3]), (rt, eI (ty 1) 900 (fun _ => 0)), (r1, eI (ty 0) 24 x9_1_2), (r2, eI (ty 0) 8 x9_2_3), (r3, eI (ty 0) 900 (fun _ => 0))]) C rfl hP hD hS [0, 1, 2, 3, 4, 5] rfl rfl ⟨x9_1_2, x9_2_3, rfl, rfl⟩ (by decide) (by decide) d_X3_readsHouse_152
set_option maxHeartbeats 4000000 in
set_option maxRecDepth 100000 in
theorem p_house (l : Launch) (D : va_G) (ty : Nat → ClassId) (h0 : Nat) (rd : Nat) (ho : Nat) (nw : Nat) (tr : Nat) (ts : Nat) (im : Nat) (rh : Nat) (rt : Nat) (r1 : Nat) (r2 : Nat) (r3 : Nat) (n : Int32) (hl9 : l.stackTraces = false) : CX l D ty ⟨"PinchedBill", "house", "(I)I"⟩ prog_1_method_3_code 2 (some .int) 7 104 1 6 [.ref h0, .int n] [(h0, eO 8 [.ref rd, .ref ho, .ref nw, .ref tr, .ref ts, .ref im, .null]), (rd, eO 3 [.int 0, .int 0, .int (-1), .ref rh, .ref rt, .int 0, .int 0, .int 0, .int 0, .int 0, .int 0]), (rh, eO 0 [.int 0, .int 1, .int 0, .int 0, .int 0, .int 0, .int 0, .int 0, .int 0, .int 0, .ref r1, .ref r2, .ref r3]), (r1, eI (ty 0) 24 (fun _ => 0)), (r2, eI (ty 0) 8 (fun _ => 0)), (r3, eI (ty 0) 900 (fun _ => 0)), (rt, eI (ty 1) 900 (fun _ => 0))] (QI D ty (fun (r : Int32) (w : va_W) => ((¬ n < 0 ∧ ¬ 0 < n)) ∧ (-12) = r ∧ w = [])) (fun E => E = "java/lang/IllegalArgumentException" ∧ ¬ ((¬ n < 0 ∧ ¬ 0 < n))) := by
  refine CX_of (by decide) ?_
  intro p e s m below meth c A C hnt hP hD hS
  obtain ⟨⟨hx, hb, hml, hown, hts⟩, hr, hlocks, hnm, hK, hE, hA, hZ⟩ := id C
  refine startW [.ref h0, .int n] 2 (nle rfl) (lv := [(0, .ref h0), (1, .int n)]) rfl (fun ls hl => ?_)
  refine lv_iload_n hx hb d_X8_house_0 rfl (lv_at hl 1 rfl) ?_
  refine lv_iconst (v := 0) hx hb d_X8_house_1 (by decide) ?_
  refine lv_aload_n hx hb d_X8_house_2 rfl (lv_at hl 0 rfl) ?_
  refine r_get (v := .ref rd) C hP 0 rfl rfl lay_X8 0 (by decide) k_320 rfl d_X8_house_3 ?_
  refine r_get (v := .int 0) C hP 1 rfl rfl lay_X3 0 (by decide) k_226 rfl d_X8_house_6 ?_
  have ct_1 : Cut [(h0, eO 8 [.ref rd, .ref ho, .ref nw, .ref tr, .ref ts, .ref im, .null]), (rd, eO 3 [.int 0, .int 0, .int (-1), .ref rh, .ref rt, .int 0, .int 0, .int 0, .int 0, .int 0, .int 0]), (rh, eO 0 [.int 0, .int 1, .int 0, .int 0, .int 0, .int 0, .int 0, .int 0, .int 0, .int 0, .ref r1, .ref r2, .ref r3]), (r1, eI (ty 0) 24 (fun _ => 0)), (r2, eI (ty 0) 8 (fun _ => 0)), (r3, eI (ty 0) 900 (fun _ => 0)), (rt, eI (ty 1) 900 (fun _ => 0))] [] [(h0, eO 8 [.ref rd, .ref ho, .ref nw, .ref tr, .ref ts, .ref im, .null]), (rd, eO 3 [.int 0, .int 0, .int (-1), .ref rh, .ref rt, .int 0, .int 0, .int 0, .int 0, .int 0, .int 0]), (rh, eO 0 [.int 0, .int 1, .int 0, .int 0, .int 0, .int 0, .int 0, .int 0, .int 0, .int 0, .ref r1, .ref r2, .ref r3]), (r1, eI (ty 0) 24 (fun _ => 0)), (r2, eI (ty 0) 8 (fun _ => 0)), (r3, eI (ty 0) 900 (fun _ => 0)), (rt, eI (ty 1) 900 (fun _ => 0))] [] [0, 1, 2, 3, 4, 5, 6] := ⟨rfl, rfl, rfl, rfl, by decide⟩
  refine contx_V C hnt hP hD hS ct_1 (fun E h => ⟨h.1, fun h9 => h.2 h9⟩) (by decide) (by decide) (runx_S (As := [.int n, .int 0, .int 0]) (rest := []) C hP hD hS ct_1 (x_within l D ty n 0 0 hl9) kS_PinchedBill_53 rfl hl.1 rfl (nle rfl) d_X8_house_9 ⟨by decide, by decide, by decide, by decide⟩) (fun w_4 H locs hw_2 hP hD hS => ?_)
  obtain ⟨hwi_5, rfl⟩ := hw_2
  have hP : va_P D vwCl [(h0, eO 8 [.ref rd, .ref ho, .ref nw, .ref tr, .ref ts, .ref im, .null]), (rd, eO 3 [.int 0, .int 0, .int (-1), .ref rh, .ref rt, .int 0, .int 0, .int 0, .int 0, .int 0, .int 0]), (rh, eO 0 [.int 0, .int 1, .int 0, .int 0, .int 0, .int 0, .int 0, .int 0, .int 0, .int 0, .ref r1, .ref r2, .ref r3]), (r1, eI (ty 0) 24 (fun _ => 0)), (r2, eI (ty 0) 8 (fun _ => 0)), (r3, eI (ty 0) 900 (fun _ => 0)), (rt, eI (ty 1) 900 (fun _ => 0))] H := hP
  have hD : va_D A [(h0, eO 8 [.ref rd, .ref ho, .ref nw, .ref tr, .ref ts, .ref im, .null]), (rd, eO 3 [.int 0, .int 0, .int (-1), .ref rh, .ref rt, .int 0, .int 0, .int 0, .int 0, .int 0, .int 0]), (rh, eO 0 [.int 0, .int 1, .int 0, .int 0, .int 0, .int 0, .int 0, .int 0, .int 0, .int 0, .ref r1, .ref r2, .ref r3]), (r1, eI (ty 0) 24 (fun _ => 0)), (r2, eI (ty 0) 8 (fun _ => 0)), (r3, eI (ty 0) 900 (fun _ => 0)), (rt, eI (ty 1) 900 (fun _ => 0))] := hD
  obtain rfl : n = 0 := zero_of hwi_5
  refine lv_aload_n hx hb d_X8_house_12 rfl (lv_at hl 0 rfl) ?_
  refine r_get (v := .ref rd) C hP 0 rfl rfl lay_X8 0 (by decide) k_320 rfl d_X8_house_13 ?_
  refine lv_iload_n hx hb d_X8_house_16 rfl (lv_at hl 1 rfl) ?_
  have ct_6 : Cut [(h0, eO 8 [.ref rd, .ref ho, .ref nw, .ref tr, .ref ts, .ref im, .null]), (rd, eO 3 [.int 0, .int 0, .int (-1), .ref rh, .ref rt, .int 0, .int 0, .int 0, .int 0, .int 0, .int 0]), (rh, eO 0 [.int 0, .int 1, .int 0, .int 0, .int 0, .int 0, .int 0, .int 0, .int 0, .int 0, .ref r1, .ref r2, .ref r3]), (r1, eI (ty 0) 24 (fun _ => 0)), (r2, eI (ty 0) 8 (fun _ => 0)), (r3, eI (ty 0) 900 (fun _ => 0)), (rt, eI (ty 1) 900 (fun _ => 0))] [(rd, eO 3 [.int 0, .int 0, .int (-1), .ref rh, .ref rt, .int 0, .int 0, .int 0, .int 0, .int 0, .int 0]), (rh, eO 0 [.int 0, .int 1, .int 0, .int 0, .int 0, .int 0, .int 0, .int 0, .int 0, .int 0, .ref r1, .ref r2, .ref r3]), (rt, eI (ty 1) 900 (fun _ => 0)), (r1, eI (ty 0) 24 (fun _ => 0)), (r2, eI (ty 0) 8 (fun _ => 0)), (r3, eI (ty 0) 900 (fun _ => 0))] [(h0, eO 8 [.ref rd, .ref ho, .ref nw, .ref tr, .ref ts, .ref im, .null])] [1, 2, 6, 3, 4, 5] [0] := ⟨rfl, rfl, rfl, rfl, by decide⟩
  refine cont_I C hP hD hS ct_6 (run_V (As := [.int 0]) (rest := []) C hP hD hS ct_6 (a_X3_readsHouse_1 l D ty rd rh rt r1 r2 r3) kV_PinchedBill_57 1 rfl rfl rfl rfl hl.1 rfl (nle rfl) d_X8_house_17 ⟨by decide, by decide, by decide, by decide⟩) (fun r_10 w_11 H locs hw_9 hP hD hS => ?_)
  obtain ⟨x9_1_7, x9_2_8, rfl, rfl⟩ := hw_9
  have hP : va_P D vwCl [(h0, eO 8 [.ref rd, .ref ho, .ref nw, .ref tr, .ref ts, .ref im, .null]), (rd, eO 3 [.int 0, .int 2, .int 0, .ref rh, .ref rt, .int 0, .int 0, .int 0, .int 0, .int 0, .int 0]), (rh, eO 0 [.int 1, .int 1, .int 0, .int 0, .int 0, .int 0, .int 0, .int 0, .int 0, .int 0, .ref r1, .ref r2, .ref r3]), (rt, eI (ty 1) 900 (fun _ => 0)), (r1, eI (ty 0) 24 x9_1_7), (r2, eI (ty 0) 8 x9_2_8), (r3, eI (ty 0) 900 (fun _ => 0))] H := hP
  have hD : va_D A [(h0, eO 8 [.ref rd, .ref ho, .ref nw, .ref tr, .ref ts, .ref im, .null]), (rd, eO 3 [.int 0, .int 2, .int 0, .ref rh, .ref rt, .int 0, .int 0, .int 0, .int 0, .int 0, .int 0]), (rh, eO 0 [.int 1, .int 1, .int 0, .int 0, .int 0, .int 0, .int 0, .int 0, .int 0, .int 0, .ref r1, .ref r2, .ref r3]), (rt, eI (ty 1) 900 (fun _ => 0)), (r1, eI (ty 0) 24 x9_1_7), (r2, eI (ty 0) 8 x9_2_8), (r3, eI (ty 0) 900 (fun _ => 0))] := hD
  refine b_if_neF C 34 d_X8_house_20 (by decide) (by decide) ?_
  refine lv_bipush (v := (-10)) hx hb d_X8_house_23 (by decide) ?_
  refine lv_aload_n hx hb d_X8_house_25 rfl (lv_at hl 0 rfl) ?_
  refine r_get (v := .ref rd) C hP 0 rfl rfl lay_X8 0 (by decide) k_320 rfl d_X8_house_26 ?_
  refine r_get (v := .int 2) C hP 1 rfl rfl lay_X3 1 (by decide) k_229 rfl d_X8_house_29 ?_
  refine r_isub (z := (-12)) C d_X8_house_32 (by decide) ?_
  exact vx_ret (ret_I (w := []) C hP hD hS [] rfl rfl ⟨hwi_5, rfl, rfl⟩ (by decide) (by decide) d_X8_house_33)

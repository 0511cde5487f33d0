theorem d_X5_forgetEldest_0 : decode prog_7_method_4_code 0 = .ok (.aload_n 0, 1) := by decide +kernel
theorem d_X5_forgetEldest_1 : decode prog_7_method_4_code 1 = .ok (.bipush 9, 2) := by decide +kernel
theorem k_298 : Cond.fieldLink "PinchedBill$Standing" 42 "PinchedBill$Standing" "deeds" "I" ∈ gd_tbl := gd_in 298 (by decide +kernel) (by decide +kernel)
theorem d_X5_forgetEldest_3 : decode prog_7_method_4_code 3 = .ok (.putfield 42, 3) := by decide +kernel
theorem d_X5_forgetEldest_6 : decode prog_7_method_4_code 6 = .ok (.aload_n 0, 1) := by decide +kernel
theorem d_X5_forgetEldest_7 : decode prog_7_method_4_code 7 = .ok (.getfield 18, 3) := by decide +kernel
theorem d_X5_forgetEldest_10 : decode prog_7_method_4_code 10 = .ok (.iconst 1, 1) := by decide +kernel
theorem d_X5_forgetEldest_11 : decode prog_7_method_4_code 11 = .ok (.aload_n 0, 1) := by decide +kernel
theorem d_X5_forgetEldest_12 : decode prog_7_method_4_code 12 = .ok (.getfield 18, 3) := by decide +kernel
theorem d_X5_forgetEldest_15 : decode prog_7_method_4_code 15 = .ok (.iconst 0, 1) := by decide +kernel
theorem d_X5_forgetEldest_16 : decode prog_7_method_4_code 16 = .ok (.aload_n 0, 1) := by decide +kernel
theorem d_X5_forgetEldest_17 : decode prog_7_method_4_code 17 = .ok (.getfield 42, 3) := by decide +kernel
theorem k_542 : Cond.methodLink "PinchedBill$Standing" 54 ⟨"java/lang/System", "arraycopy", "(Ljava/lang/Object;ILjava/lang/Object;II)V"⟩ ∈ gd_tbl := gd_in 542 (by decide +kernel) (by decide +kernel)
theorem k_544 : Cond.native ⟨"java/lang/System", "arraycopy", "(Ljava/lang/Object;ILjava/lang/Object;II)V"⟩ ∈ gd_tbl := gd_in 544 (by decide +kernel) (by decide +kernel)
theorem k_543 : Cond.static ⟨"java/lang/System", "arraycopy", "(Ljava/lang/Object;ILjava/lang/Object;II)V"⟩ ∈ gd_tbl := gd_in 543 (by decide +kernel) (by decide +kernel)
theorem k_134 : Cond.initialized "java/lang/System" ∈ gd_tbl := gd_in 134 (by decide +kernel) (by decide +kernel)
theorem d_X5_forgetEldest_20 : decode prog_7_method_4_code 20 = .ok (.invokestatic 54, 3) := by decide +kernel
theorem d_X5_forgetEldest_23 : decode prog_7_method_4_code 23 = .ok (.aload_n 0, 1) := by decide +kernel
theorem d_X5_forgetEldest_24 : decode prog_7_method_4_code 24 = .ok (.getfield 22, 3) := by decide +kernel
theorem d_X5_forgetEldest_27 : decode prog_7_method_4_code 27 = .ok (.iconst 1, 1) := by decide +kernel
theorem d_X5_forgetEldest_28 : decode prog_7_method_4_code 28 = .ok (.aload_n 0, 1) := by decide +kernel
theorem d_X5_forgetEldest_29 : decode prog_7_method_4_code 29 = .ok (.getfield 22, 3) := by decide +kernel
theorem d_X5_forgetEldest_32 : decode prog_7_method_4_code 32 = .ok (.iconst 0, 1) := by decide +kernel
theorem d_X5_forgetEldest_33 : decode prog_7_method_4_code 33 = .ok (.aload_n 0, 1) := by decide +kernel
theorem d_X5_forgetEldest_34 : decode prog_7_method_4_code 34 = .ok (.getfield 42, 3) := by decide +kernel
theorem d_X5_forgetEldest_37 : decode prog_7_method_4_code 37 = .ok (.invokestatic 54, 3) := by decide +kernel
theorem d_X5_forgetEldest_40 : decode prog_7_method_4_code 40 = .ok (.aload_n 0, 1) := by decide +kernel
theorem d_X5_forgetEldest_41 : decode prog_7_method_4_code 41 = .ok (.getfield 25, 3) := by decide +kernel
theorem d_X5_forgetEldest_44 : decode prog_7_method_4_code 44 = .ok (.iconst 1, 1) := by decide +kernel
theorem d_X5_forgetEldest_45 : decode prog_7_method_4_code 45 = .ok (.aload_n 0, 1) := by decide +kernel
theorem d_X5_forgetEldest_46 : decode prog_7_method_4_code 46 = .ok (.getfield 25, 3) := by decide +kernel
theorem d_X5_forgetEldest_49 : decode prog_7_method_4_code 49 = .ok (.iconst 0, 1) := by decide +kernel
theorem d_X5_forgetEldest_50 : decode prog_7_method_4_code 50 = .ok (.aload_n 0, 1) := by decide +kernel
theorem d_X5_forgetEldest_51 : decode prog_7_method_4_code 51 = .ok (.getfield 42, 3) := by decide +kernel
theorem d_X5_forgetEldest_54 : decode prog_7_method_4_code 54 = .ok (.invokestatic 54, 3) := by decide +kernel
theorem d_X5_forgetEldest_57 : decode prog_7_method_4_code 57 = .ok (.return_, 1) := by decide +kernel
theorem d_X5_record_0 : decode prog_7_method_3_code 0 = .ok (.aload_n 0, 1) := by decide +kernel
theorem d_X5_record_1 : decode prog_7_method_3_code 1 = .ok (.getfield 42, 3) := by decide +kernel
theorem d_X5_record_4 : decode prog_7_method_3_code 4 = .ok (.bipush 10, 2) := by decide +kernel
theorem d_X5_record_6 : decode prog_7_method_3_code 6 = .ok (.if_icmp .lt 7, 3) := by decide +kernel
theorem d_X5_record_13 : decode prog_7_method_3_code 13 = .ok (.aload_n 0, 1) := by decide +kernel
theorem d_X5_record_14 : decode prog_7_method_3_code 14 = .ok (.getfield 18, 3) := by decide +kernel
theorem d_X5_record_17 : decode prog_7_method_3_code 17 = .ok (.aload_n 0, 1) := by decide +kernel
theorem d_X5_record_18 : decode prog_7_method_3_code 18 = .ok (.getfield 42, 3) := by decide +kernel
theorem d_X5_record_21 : decode prog_7_method_3_code 21 = .ok (.aload_n 0, 1) := by decide +kernel
theorem d_X5_record_22 : decode prog_7_method_3_code 22 = .ok (.getfield 12, 3) := by decide +kernel
theorem k_280 : Cond.fieldLink "PinchedBill$Standing" 48 "PinchedBill$Walk" "bill" "I" ∈ gd_tbl := gd_in 280 (by decide +kernel) (by decide +kernel)
theorem d_X5_record_25 : decode prog_7_method_3_code 25 = .ok (.getfield 48, 3) := by decide +kernel
theorem d_X5_record_28 : decode prog_7_method_3_code 28 = .ok (.iastore, 1) := by decide +kernel
theorem d_X5_record_29 : decode prog_7_method_3_code 29 = .ok (.aload_n 0, 1) := by decide +kernel
theorem d_X5_record_30 : decode prog_7_method_3_code 30 = .ok (.getfield 22, 3) := by decide +kernel
theorem d_X5_record_33 : decode prog_7_method_3_code 33 = .ok (.aload_n 0, 1) := by decide +kernel
theorem d_X5_record_34 : decode prog_7_method_3_code 34 = .ok (.getfield 42, 3) := by decide +kernel
theorem d_X5_record_37 : decode prog_7_method_3_code 37 = .ok (.aload_n 0, 1) := by decide +kernel
theorem d_X5_record_38 : decode prog_7_method_3_code 38 = .ok (.getfield 12, 3) := by decide +kernel
theorem k_285 : Cond.fieldLink "PinchedBill$Standing" 51 "PinchedBill$Walk" "spoke" "I" ∈ gd_tbl := gd_in 285 (by decide +kernel) (by decide +kernel)
theorem d_X5_record_41 : decode prog_7_method_3_code 41 = .ok (.getfield 51, 3) := by decide +kernel
theorem d_X5_record_44 : decode prog_7_method_3_code 44 = .ok (.iastore, 1) := by decide +kernel
theorem d_X5_record_45 : decode prog_7_method_3_code 45 = .ok (.aload_n 0, 1) := by decide +kernel
theorem d_X5_record_46 : decode prog_7_method_3_code 46 = .ok (.getfield 25, 3) := by decide +kernel
theorem d_X5_record_49 : decode prog_7_method_3_code 49 = .ok (.aload_n 0, 1) := by decide +kernel
theorem d_X5_record_50 : decode prog_7_method_3_code 50 = .ok (.getfield 42, 3) := by decide +kernel
theorem d_X5_record_53 : decode prog_7_method_3_code 53 = .ok (.aload_n 0, 1) := by decide +kernel
theorem k_296 : Cond.fieldLink "PinchedBill$Standing" 41 "PinchedBill$Standing" "sitting" "I" ∈ gd_tbl := gd_in 296 (by decide +kernel) (by decide +kernel)
theorem d_X5_record_54 : decode prog_7_method_3_code 54 = .ok (.getfield 41, 3) := by decide +kernel
theorem d_X5_record_57 : decode prog_7_method_3_code 57 = .ok (.iastore, 1) := by decide +kernel
theorem d_X5_record_58 : decode prog_7_method_3_code 58 = .ok (.aload_n 0, 1) := by decide +kernel
theorem d_X5_record_59 : decode prog_7_method_3_code 59 = .ok (.dup, 1) := by decide +kernel
theorem d_X5_record_60 : decode prog_7_method_3_code 60 = .ok (.getfield 42, 3) := by decide +kernel
theorem d_X5_record_63 : decode prog_7_method_3_code 63 = .ok (.iconst 1, 1) := by decide +kernel
theorem d_X5_record_64 : decode prog_7_method_3_code 64 = .ok (.iadd, 1) := by decide +kernel
theorem d_X5_record_65 : decode prog_7_method_3_code 65 = .ok (.putfield 42, 3) := by decide +kernel
theorem d_X5_record_68 : decode prog_7_method_3_code 68 = .ok (.return_, 1) := by decide +kernel
theorem d_X5_record_9 : decode prog_7_method_3_code 9 = .ok (.aload_n 0, 1) := by decide +kernel
theorem k_541 : Cond.code ⟨"PinchedBill$Standing", "forgetEldest", "()V"⟩ prog_7_method_4_code 1 none ∈ gd_tbl := gd_in 541 (by decide +kernel) (by decide +kernel)
theorem k_538 : Cond.methodLink "PinchedBill$Standing" 45 ⟨"PinchedBill$Standing", "forgetEldest", "()V"⟩ ∈ gd_tbl := gd_in 538 (by decide +kernel) (by decide +kernel)
theorem k_540 : Cond.instanceMethod ⟨"PinchedBill$Standing", "forgetEldest", "()V"⟩ ∈ gd_tbl := gd_in 540 (by decide +kernel) (by decide +kernel)
theorem k_7 : Cond.selects "PinchedBill$Standing" ⟨"PinchedBill$Standing", "forgetEldest", "()V"⟩ ⟨"PinchedBill$Standing", "forgetEldest", "()V"⟩ ∈ gd_tbl := gd_in 7 (by decide +kernel) (by decide +kernel)
theorem kV_PinchedBill_Standing_45 : kV "PinchedBill$Standing" 45 ⟨"PinchedBill$Standing", "forgetEldest", "()V"⟩ prog_7_method_4_code 1 none 0 := ⟨k_538, k_540, k_7, k_120, k_541, by decide, by decide, by decide +kernel⟩
theorem d_X5_record_10 : decode prog_7_method_3_code 10 = .ok (.invokevirtual 45, 3) := by decide +kernel
theorem d_X3_putOnTape_0 : decode prog_5_method_2_code 0 = .ok (.bipush 24, 2) := by decide +kernel
theorem d_X3_putOnTape_2 : decode prog_5_method_2_code 2 = .ok (.istore_n 2, 1) := by decide +kernel
theorem d_X3_putOnTape_3 : decode prog_5_method_2_code 3 = .ok (.iload_n 2, 1) := by decide +kernel
theorem d_X3_putOnTape_4 : decode prog_5_method_2_code 4 = .ok (.ifCond .lt 42, 3) := by decide +kernel
theorem d_X3_putOnTape_7 : decode prog_5_method_2_code 7 = .ok (.aload_n 0, 1) := by decide +kernel
theorem k_227 : Cond.fieldLink "PinchedBill$Reader" 26 "PinchedBill$Reader" "fed" "I" ∈ gd_tbl := gd_in 227 (by decide +kernel) (by decide +kernel)
theorem d_X3_putOnTape_8 : decode prog_5_method_2_code 8 = .ok (.getfield 26, 3) := by decide +kernel
theorem d_X3_putOnTape_11 : decode prog_5_method_2_code 11 = .ok (.sipush 900, 3) := by decide +kernel
theorem d_X3_putOnTape_14 : decode prog_5_method_2_code 14 = .ok (.if_icmp .ge 26, 3) := by decide +kernel
theorem d_X3_putOnTape_17 : decode prog_5_method_2_code 17 = .ok (.aload_n 0, 1) := by decide +kernel
theorem d_X3_putOnTape_18 : decode prog_5_method_2_code 18 = .ok (.getfield 22, 3) := by decide +kernel
theorem d_X3_putOnTape_21 : decode prog_5_method_2_code 21 = .ok (.aload_n 0, 1) := by decide +kernel
theorem d_X3_putOnTape_22 : decode prog_5_method_2_code 22 = .ok (.getfield 26, 3) := by decide +kernel
theorem d_X3_putOnTape_25 : decode prog_5_method_2_code 25 = .ok (.iload_n 1, 1) := by decide +kernel
theorem d_X3_putOnTape_26 : decode prog_5_method_2_code 26 = .ok (.iload_n 2, 1) := by decide +kernel
theorem d_X3_putOnTape_27 : decode prog_5_method_2_code 27 = .ok (.ishr, 1) := by decide +kernel
theorem d_X3_putOnTape_28 : decode prog_5_method_2_code 28 = .ok (.i2b, 1) := by decide +kernel
theorem d_X3_putOnTape_29 : decode prog_5_method_2_code 29 = .ok (.bastore, 1) := by decide +kernel
theorem d_X3_putOnTape_30 : decode prog_5_method_2_code 30 = .ok (.aload_n 0, 1) := by decide +kernel
theorem d_X3_putOnTape_31 : decode prog_5_method_2_code 31 = .ok (.dup, 1) := by decide +kernel
theorem d_X3_putOnTape_32 : decode prog_5_method_2_code 32 = .ok (.getfield 26, 3) := by decide +kernel
theorem d_X3_putOnTape_35 : decode prog_5_method_2_code 35 = .ok (.iconst 1, 1) := by decide +kernel
theorem d_X3_putOnTape_36 : decode prog_5_method_2_code 36 = .ok (.iadd, 1) := by decide +kernel
theorem d_X3_putOnTape_37 : decode prog_5_method_2_code 37 = .ok (.putfield 26, 3) := by decide +kernel
theorem d_X3_putOnTape_40 : decode prog_5_method_2_code 40 = .ok (.iinc 2 (-8), 3) := by decide +kernel
theorem d_X3_putOnTape_43 : decode prog_5_method_2_code 43 = .ok (.goto (-40), 3) := by decide +kernel
theorem d_X3_putOnTape_46 : decode prog_5_method_2_code 46 = .ok (.return_, 1) := by decide +kernel
theorem d_X8_feed_0 : decode prog_1_method_2_code 0 = .ok (.aload_n 0, 1) := by decide +kernel
theorem d_X8_feed_1 : decode prog_1_method_2_code 1 = .ok (.getfield 10, 3) := by decide +kernel
theorem k_226 : Cond.fieldLink "PinchedBill" 45 "PinchedBill$Reader" "fed" "I" ∈ gd_tbl := gd_in 226 (by decide +kernel) (by decide +kernel)
theorem d_X8_feed_4 : decode prog_1_method_2_code 4 = .ok (.getfield 45, 3) := by decide +kernel
theorem d_X8_feed_7 : decode prog_1_method_2_code 7 = .ok (.bipush 20, 2) := by decide +kernel
theorem d_X8_feed_9 : decode prog_1_method_2_code 9 = .ok (.iadd, 1) := by decide +kernel
theorem d_X8_feed_10 : decode prog_1_method_2_code 10 = .ok (.sipush 900, 3) := by decide +kernel
theorem d_X8_feed_13 : decode prog_1_method_2_code 13 = .ok (.if_icmp .le 5, 3) := by decide +kernel
theorem d_X8_feed_18 : decode prog_1_method_2_code 18 = .ok (.aload_n 0, 1) := by decide +kernel
theorem d_X8_feed_19 : decode prog_1_method_2_code 19 = .ok (.getfield 10, 3) := by decide +kernel
theorem d_X8_feed_22 : decode prog_1_method_2_code 22 = .ok (.iload_n 1, 1) := by decide +kernel
theorem k_349 : Cond.code ⟨"PinchedBill$Reader", "putOnTape", "(I)V"⟩ prog_5_method_2_code 3 none ∈ gd_tbl := gd_in 349 (by decide +kernel) (by decide +kernel)
theorem k_346 : Cond.methodLink "PinchedBill" 49 ⟨"PinchedBill$Reader", "putOnTape", "(I)V"⟩ ∈ gd_tbl := gd_in 346 (by decide +kernel) (by decide +kernel)
theorem k_347 : Cond.instanceMethod ⟨"PinchedBill$Reader", "putOnTape", "(I)V"⟩ ∈ gd_tbl := gd_in 347 (by decide +kernel) (by decide +kernel)
theorem k_348 : Cond.selects "PinchedBill$Reader" ⟨"PinchedBill$Reader", "putOnTape", "(I)V"⟩ ⟨"PinchedBill$Reader", "putOnTape", "(I)V"⟩ ∈ gd_tbl := gd_in 348 (by decide +kernel) (by decide +kernel)
theorem kV_PinchedBill_49 : kV "PinchedBill" 49 ⟨"PinchedBill$Reader", "putOnTape", "(I)V"⟩ prog_5_method_2_code 3 none 1 := ⟨k_346, k_347, k_348, k_118, k_349, by decide, by decide, by decide +kernel⟩
theorem d_X8_feed_23 : decode prog_1_method_2_code 23 = .ok (.invokevirtual 49, 3) := by decide +kernel
theorem d_X8_feed_26 : decode prog_1_method_2_code 26 = .ok (.aload_n 0, 1) := by decide +kernel
theorem d_X8_feed_27 : decode prog_1_method_2_code 27 = .ok (.getfield 10, 3) := by decide +kernel
theorem d_X8_feed_30 : decode prog_1_method_2_code 30 = .ok (.iload_n 2, 1) := by decide +kernel
theorem d_X8_feed_31 : decode prog_1_method_2_code 31 = .ok (.invokevirtual 49, 3) := by decide +kernel
theorem d_X8_feed_34 : decode prog_1_method_2_code 34 = .ok (.aload_n 0, 1) := by decide +kernel
theorem d_X8_feed_35 : decode prog_1_method_2_code 35 = .ok (.getfield 10, 3) := by decide +kernel
theorem d_X8_feed_38 : decode prog_1_method_2_code 38 = .ok (.iload_n 3, 1) := by decide +kernel
theorem d_X8_feed_39 : decode prog_1_method_2_code 39 = .ok (.invokevirtual 49, 3) := by decide +kernel
theorem d_X8_feed_42 : decode prog_1_method_2_code 42 = .ok (.aload_n 0, 1) := by decide +kernel
theorem d_X8_feed_43 : decode prog_1_method_2_code 43 = .ok (.getfield 10, 3) := by decide +kernel
theorem d_X8_feed_46 : decode prog_1_method_2_code 46 = .ok (.iload 4, 2) := by decide +kernel
theorem d_X8_feed_48 : decode prog_1_method_2_code 48 = .ok (.invokevirtual 49, 3) := by decide +kernel
theorem d_X8_feed_51 : decode prog_1_method_2_code 51 = .ok (.aload_n 0, 1) := by decide +kernel
theorem d_X8_feed_52 : decode prog_1_method_2_code 52 = .ok (.getfield 10, 3) := by decide +kernel
theorem d_X8_feed_55 : decode prog_1_method_2_code 55 = .ok (.iload 5, 2) := by decide +kernel
theorem d_X8_feed_57 : decode prog_1_method_2_code 57 = .ok (.invokevirtual 49, 3) := by decide +kernel
theorem d_X8_feed_60 : decode prog_1_method_2_code 60 = .ok (.aload_n 0, 1) := by decide +kernel
theorem d_X8_feed_61 : decode prog_1_method_2_code 61 = .ok (.getfield 10, 3) := by decide +kernel
theorem d_X8_feed_64 : decode prog_1_method_2_code 64 = .ok (.getfield 45, 3) := by decide +kernel
theorem d_X8_feed_67 : decode prog_1_method_2_code 67 = .ok (.ireturn, 1) := by decide +kernel
theorem d_X8_fault_0 : decode prog_1_method_4_code 0 = .ok (.iload_n 1, 1) := by decide +kernel
theorem d_X8_fault_1 : decode prog_1_method_4_code 1 = .ok (.ifCond .ne 11, 3) := by decide +kernel
theorem d_X8_fault_12 : decode prog_1_method_4_code 12 = .ok (.iload_n 1, 1) := by decide +kernel
theorem d_X8_fault_13 : decode prog_1_method_4_code 13 = .ok (.iconst 1, 1) := by decide +kernel
theorem d_X8_fault_14 : decode prog_1_method_4_code 14 = .ok (.if_icmp .ne 13, 3) := by decide +kernel
theorem d_X8_fault_27 : decode prog_1_method_4_code 27 = .ok (.iconst (-1), 1) := by decide +kernel
theorem d_X8_fault_28 : decode prog_1_method_4_code 28 = .ok (.ireturn, 1) := by decide +kernel
theorem d_X8_fault_17 : decode prog_1_method_4_code 17 = .ok (.aload_n 0, 1) := by decide +kernel
theorem d_X8_fault_18 : decode prog_1_method_4_code 18 = .ok (.getfield 10, 3) := by decide +kernel
theorem k_231 : Cond.fieldLink "PinchedBill" 78 "PinchedBill$Reader" "place" "I" ∈ gd_tbl := gd_in 231 (by decide +kernel) (by decide +kernel)
theorem d_X8_fault_21 : decode prog_1_method_4_code 21 = .ok (.getfield 78, 3) := by decide +kernel
theorem d_X8_fault_24 : decode prog_1_method_4_code 24 = .ok (.goto 4, 3) := by decide +kernel
theorem d_X8_fault_4 : decode prog_1_method_4_code 4 = .ok (.aload_n 0, 1) := by decide +kernel
theorem d_X8_fault_5 : decode prog_1_method_4_code 5 = .ok (.getfield 10, 3) := by decide +kernel
theorem k_229 : Cond.fieldLink "PinchedBill" 61 "PinchedBill$Reader" "fault" "I" ∈ gd_tbl := gd_in 229 (by decide +kernel) (by decide +kernel)
theorem d_X8_fault_8 : decode prog_1_method_4_code 8 = .ok (.getfield 61, 3) := by decide +kernel
theorem d_X8_fault_11 : decode prog_1_method_4_code 11 = .ok (.ireturn, 1) := by decide +kernel
theorem d_X8_bill_0 : decode prog_1_method_6_code 0 = .ok (.aload_n 0, 1) := by decide +kernel
theorem d_X8_bill_1 : decode prog_1_method_6_code 1 = .ok (.getfield 26, 3) := by decide +kernel
theorem k_295 : Cond.fieldLink "PinchedBill" 99 "PinchedBill$Standing" "at" "LPinchedBill$Walk;" ∈ gd_tbl := gd_in 295 (by decide +kernel) (by decide +kernel)
theorem d_X8_bill_4 : decode prog_1_method_6_code 4 = .ok (.getfield 99, 3) := by decide +kernel
theorem k_282 : Cond.fieldLink "PinchedBill" 103 "PinchedBill$Walk" "bill" "I" ∈ gd_tbl := gd_in 282 (by decide +kernel) (by decide +kernel)
theorem d_X8_bill_7 : decode prog_1_method_6_code 7 = .ok (.getfield 103, 3) := by decide +kernel
theorem d_X8_bill_10 : decode prog_1_method_6_code 10 = .ok (.ireturn, 1) := by decide +kernel
theorem d_X8_spoke_0 : decode prog_1_method_7_code 0 = .ok (.aload_n 0, 1) := by decide +kernel
theorem d_X8_spoke_1 : decode prog_1_method_7_code 1 = .ok (.getfield 26, 3) := by decide +kernel
theorem d_X8_spoke_4 : decode prog_1_method_7_code 4 = .ok (.getfield 99, 3) := by decide +kernel
theorem k_287 : Cond.fieldLink "PinchedBill" 113 "PinchedBill$Walk" "spoke" "I" ∈ gd_tbl := gd_in 287 (by decide +kernel) (by decide +kernel)
theorem d_X8_spoke_7 : decode prog_1_method_7_code 7 = .ok (.getfield 113, 3) := by decide +kernel
theorem d_X8_spoke_10 : decode prog_1_method_7_code 10 = .ok (.ireturn, 1) := by decide +kernel
theorem d_X8_next_0 : decode prog_1_method_8_code 0 = .ok (.aload_n 0, 1) := by decide +kernel
theorem k_369 : Cond.code ⟨"PinchedBill", "lawBook", "()LPinchedBill$Laws;"⟩ prog_1_method_58_code 1 (some (.object "PinchedBill$Laws")) ∈ gd_tbl := gd_in 369 (by decide +kernel) (by decide +kernel)
theorem k_366 : Cond.methodLink "PinchedBill" 95 ⟨"PinchedBill", "lawBook", "()LPinchedBill$Laws;"⟩ ∈ gd_tbl := gd_in 366 (by decide +kernel) (by decide +kernel)
theorem k_368 : Cond.instanceMethod ⟨"PinchedBill", "lawBook", "()LPinchedBill$Laws;"⟩ ∈ gd_tbl := gd_in 368 (by decide +kernel) (by decide +kernel)
theorem k_0 : Cond.selects "PinchedBill" ⟨"PinchedBill", "lawBook", "()LPinchedBill$Laws;"⟩ ⟨"PinchedBill", "lawBook", "()LPinchedBill$Laws;"⟩ ∈ gd_tbl := gd_in 0 (by decide +kernel) (by decide +kernel)
theorem kV_PinchedBill_95 : kV "PinchedBill" 95 ⟨"PinchedBill", "lawBook", "()LPinchedBill$Laws;"⟩ prog_1_method_58_code 1 (some (.object "PinchedBill$Laws")) 0 := ⟨k_366, k_368, k_0, k_117, k_369, by decide, by decide, by decide +kernel⟩
theorem d_X8_next_1 : decode prog_1_method_8_code 1 = .ok (.invokevirtual 95, 3) := by decide +kernel
theorem d_X8_next_4 : decode prog_1_method_8_code 4 = .ok (.aload_n 0, 1) := by decide +kernel
theorem d_X8_next_5 : decode prog_1_method_8_code 5 = .ok (.getfield 26, 3) := by decide +kernel
theorem d_X8_next_8 : decode prog_1_method_8_code 8 = .ok (.getfield 99, 3) := by decide +kernel
theorem d_X8_next_11 : decode prog_1_method_8_code 11 = .ok (.getfield 103, 3) := by decide +kernel
theorem k_465 : Cond.methodLink "PinchedBill" 108 ⟨"PinchedBill$Laws", "pinchedBy", "(I)I"⟩ ∈ gd_tbl := gd_in 465 (by decide +kernel) (by decide +kernel)
theorem kV_PinchedBill_108 : kV "PinchedBill" 108 ⟨"PinchedBill$Laws", "pinchedBy", "(I)I"⟩ prog_4_method_3_code 5 (some .int) 1 := ⟨k_465, k_466, k_467, k_137, k_468, by decide, by decide, by decide +kernel⟩
theorem d_X8_next_14 : decode prog_1_method_8_code 14 = .ok (.invokevirtual 108, 3) := by decide +kernel
theorem d_X8_next_17 : decode prog_1_method_8_code 17 = .ok (.aload_n 0, 1) := by decide +kernel
theorem d_X8_next_18 : decode prog_1_method_8_code 18 = .ok (.getfield 26, 3) := by decide +kernel
theorem d_X8_next_21 : decode prog_1_method_8_code 21 = .ok (.getfield 92, 3) := by decide +kernel
theorem d_X8_next_24 : decode prog_1_method_8_code 24 = .ok (.iand, 1) := by decide +kernel
theorem d_X8_next_25 : decode prog_1_method_8_code 25 = .ok (.aload_n 0, 1) := by decide +kernel
theorem d_X8_next_26 : decode prog_1_method_8_code 26 = .ok (.getfield 26, 3) := by decide +kernel
theorem d_X8_next_29 : decode prog_1_method_8_code 29 = .ok (.getfield 99, 3) := by decide +kernel
theorem d_X8_next_32 : decode prog_1_method_8_code 32 = .ok (.getfield 113, 3) := by decide +kernel
theorem k_507 : Cond.methodLink "PinchedBill" 116 ⟨"PinchedBill$Laws", "speaker", "(II)I"⟩ ∈ gd_tbl := gd_in 507 (by decide +kernel) (by decide +kernel)
theorem kS_PinchedBill_116 : kS "PinchedBill" 116 ⟨"PinchedBill$Laws", "speaker", "(II)I"⟩ prog_4_method_10_code 4 (some .int) 2 := ⟨k_507, k_508, k_137, k_509, by decide, by decide, by decide +kernel⟩
theorem d_X8_next_35 : decode prog_1_method_8_code 35 = .ok (.invokestatic 116, 3) := by decide +kernel
theorem d_X8_next_38 : decode prog_1_method_8_code 38 = .ok (.ireturn, 1) := by decide +kernel
theorem d_X8_pinched_0 : decode prog_1_method_9_code 0 = .ok (.aload_n 0, 1) := by decide +kernel
theorem d_X8_pinched_1 : decode prog_1_method_9_code 1 = .ok (.iload_n 1, 1) := by decide +kernel
theorem k_1030 : Cond.code ⟨"PinchedBill", "mustBeBill", "(I)V"⟩ prog_1_method_51_code 2 none ∈ gd_tbl := gd_in 1030 (by decide +kernel) (by decide +kernel)
theorem k_1027 : Cond.methodLink "PinchedBill" 119 ⟨"PinchedBill", "mustBeBill", "(I)V"⟩ ∈ gd_tbl := gd_in 1027 (by decide +kernel) (by decide +kernel)
theorem k_1029 : Cond.instanceMethod ⟨"PinchedBill", "mustBeBill", "(I)V"⟩ ∈ gd_tbl := gd_in 1029 (by decide +kernel) (by decide +kernel)
theorem k_35 : Cond.selects "PinchedBill" ⟨"PinchedBill", "mustBeBill", "(I)V"⟩ ⟨"PinchedBill", "mustBeBill", "(I)V"⟩ ∈ gd_tbl := gd_in 35 (by decide +kernel) (by decide +kernel)
theorem kV_PinchedBill_119 : kV "PinchedBill" 119 ⟨"PinchedBill", "mustBeBill", "(I)V"⟩ prog_1_method_51_code 2 none 1 := ⟨k_1027, k_1029, k_35, k_117, k_1030, by decide, by decide, by decide +kernel⟩
theorem d_X8_pinched_2 : decode prog_1_method_9_code 2 = .ok (.invokevirtual 119, 3) := by decide +kernel
theorem d_X8_pinched_5 : decode prog_1_method_9_code 5 = .ok (.aload_n 0, 1) := by decide +kernel
theorem d_X8_pinched_6 : decode prog_1_method_9_code 6 = .ok (.invokevirtual 95, 3) := by decide +kernel
theorem d_X8_pinched_9 : decode prog_1_method_9_code 9 = .ok (.iload_n 1, 1) := by decide +kernel
theorem d_X8_pinched_10 : decode prog_1_method_9_code 10 = .ok (.invokevirtual 108, 3) := by decide +kernel
theorem d_X8_pinched_13 : decode prog_1_method_9_code 13 = .ok (.aload_n 0, 1) := by decide +kernel
theorem d_X8_pinched_14 : decode prog_1_method_9_code 14 = .ok (.getfield 26, 3) := by decide +kernel
theorem d_X8_pinched_17 : decode prog_1_method_9_code 17 = .ok (.getfield 92, 3) := by decide +kernel
theorem d_X8_pinched_20 : decode prog_1_method_9_code 20 = .ok (.iand, 1) := by decide +kernel
theorem d_X8_pinched_21 : decode prog_1_method_9_code 21 = .ok (.ireturn, 1) := by decide +kernel
theorem d_X8_steps_0 : decode prog_1_method_11_code 0 = .ok (.iload_n 1, 1) := by decide +kernel
theorem d_X8_steps_1 : decode prog_1_method_11_code 1 = .ok (.iconst 1, 1) := by decide +kernel
theorem d_X8_steps_2 : decode prog_1_method_11_code 2 = .ok (.sipush 999, 3) := by decide +kernel
theorem k_663 : Cond.code ⟨"PinchedBill", "mustBeWithin", "(III)V"⟩ prog_1_method_49_code 3 none ∈ gd_tbl := gd_in 663 (by decide +kernel) (by decide +kernel)
theorem k_661 : Cond.methodLink "PinchedBill" 53 ⟨"PinchedBill", "mustBeWithin", "(III)V"⟩ ∈ gd_tbl := gd_in 661 (by decide +kernel) (by decide +kernel)
theorem k_662 : Cond.static ⟨"PinchedBill", "mustBeWithin", "(III)V"⟩ ∈ gd_tbl := gd_in 662 (by decide +kernel) (by decide +kernel)
theorem kS_PinchedBill_53 : kS "PinchedBill" 53 ⟨"PinchedBill", "mustBeWithin", "(III)V"⟩ prog_1_method_49_code 3 none 3 := ⟨k_661, k_662, k_117, k_663, by decide, by decide, by decide +kernel⟩
theorem d_X8_steps_5 : decode prog_1_method_11_code 5 = .ok (.invokestatic 53, 3) := by decide +kernel
theorem d_X8_steps_8 : decode prog_1_method_11_code 8 = .ok (.aload_n 0, 1) := by decide +kernel
theorem d_X8_steps_9 : decode prog_1_method_11_code 9 = .ok (.getfield 26, 3) := by decide +kernel
theorem k_537 : Cond.code ⟨"PinchedBill$Standing", "record", "()V"⟩ prog_7_method_3_code 1 none ∈ gd_tbl := gd_in 537 (by decide +kernel) (by decide +kernel)
theorem k_534 : Cond.methodLink "PinchedBill" 125 ⟨"PinchedBill$Standing", "record", "()V"⟩ ∈ gd_tbl := gd_in 534 (by decide +kernel) (by decide +kernel)
theorem k_535 : Cond.instanceMethod ⟨"PinchedBill$Standing", "record", "()V"⟩ ∈ gd_tbl := gd_in 535 (by decide +kernel) (by decide +kernel)
theorem k_536 : Cond.selects "PinchedBill$Standing" ⟨"PinchedBill$Standing", "record", "()V"⟩ ⟨"PinchedBill$Standing", "record", "()V"⟩ ∈ gd_tbl := gd_in 536 (by decide +kernel) (by decide +kernel)
theorem kV_PinchedBill_125 : kV "PinchedBill" 125 ⟨"PinchedBill$Standing", "record", "()V"⟩ prog_7_method_3_code 1 none 0 := ⟨k_534, k_535, k_536, k_120, k_537, by decide, by decide, by decide +kernel⟩
theorem d_X8_steps_12 : decode prog_1_method_11_code 12 = .ok (.invokevirtual 125, 3) := by decide +kernel
theorem d_X8_steps_15 : decode prog_1_method_11_code 15 = .ok (.aload_n 0, 1) := by decide +kernel
theorem d_X8_steps_16 : decode prog_1_method_11_code 16 = .ok (.invokevirtual 95, 3) := by decide +kernel
theorem d_X8_steps_19 : decode prog_1_method_11_code 19 = .ok (.aload_n 0, 1) := by decide +kernel
theorem d_X8_steps_20 : decode prog_1_method_11_code 20 = .ok (.getfield 26, 3) := by decide +kernel
theorem d_X8_steps_23 : decode prog_1_method_11_code 23 = .ok (.getfield 99, 3) := by decide +kernel
theorem d_X8_steps_26 : decode prog_1_method_11_code 26 = .ok (.iload_n 1, 1) := by decide +kernel
theorem d_X8_steps_27 : decode prog_1_method_11_code 27 = .ok (.aload_n 0, 1) := by decide +kernel
theorem d_X8_steps_28 : decode prog_1_method_11_code 28 = .ok (.getfield 26, 3) := by decide +kernel
theorem d_X8_steps_31 : decode prog_1_method_11_code 31 = .ok (.getfield 92, 3) := by decide +kernel
theorem k_1047 : Cond.methodLink "PinchedBill" 128 ⟨"PinchedBill$Laws", "stepOften", "(LPinchedBill$Walk;II)I"⟩ ∈ gd_tbl := gd_in 1047 (by decide +kernel) (by decide +kernel)
theorem kV_PinchedBill_128 : kV "PinchedBill" 128 ⟨"PinchedBill$Laws", "stepOften", "(LPinchedBill$Walk;II)I"⟩ prog_4_method_13_code 5 (some .int) 3 := ⟨k_1047, k_1048, k_1049, k_137, k_1050, by decide, by decide, by decide +kernel⟩
theorem d_X8_steps_34 : decode prog_1_method_11_code 34 = .ok (.invokevirtual 128, 3) := by decide +kernel
theorem d_X8_steps_37 : decode prog_1_method_11_code 37 = .ok (.ireturn, 1) := by decide +kernel
theorem d_X8_ends_0 : decode prog_1_method_19_code 0 = .ok (.aload_n 0, 1) := by decide +kernel
theorem d_X8_ends_1 : decode prog_1_method_19_code 1 = .ok (.iload_n 1, 1) := by decide +kernel
theorem d_X8_ends_2 : decode prog_1_method_19_code 2 = .ok (.invokevirtual 119, 3) := by decide +kernel
theorem d_X8_ends_5 : decode prog_1_method_19_code 5 = .ok (.aload_n 0, 1) := by decide +kernel
theorem d_X8_ends_6 : decode prog_1_method_19_code 6 = .ok (.iload_n 1, 1) := by decide +kernel
theorem k_1138 : Cond.code ⟨"PinchedBill", "traced", "(I)LPinchedBill$Reckoner;"⟩ prog_1_method_60_code 3 (some (.object "PinchedBill$Reckoner")) ∈ gd_tbl := gd_in 1138 (by decide +kernel) (by decide +kernel)
theorem k_1135 : Cond.methodLink "PinchedBill" 172 ⟨"PinchedBill", "traced", "(I)LPinchedBill$Reckoner;"⟩ ∈ gd_tbl := gd_in 1135 (by decide +kernel) (by decide +kernel)
theorem k_1137 : Cond.instanceMethod ⟨"PinchedBill", "traced", "(I)LPinchedBill$Reckoner;"⟩ ∈ gd_tbl := gd_in 1137 (by decide +kernel) (by decide +kernel)
theorem k_38 : Cond.selects "PinchedBill" ⟨"PinchedBill", "traced", "(I)LPinchedBill$Reckoner;"⟩ ⟨"PinchedBill", "traced", "(I)LPinchedBill$Reckoner;"⟩ ∈ gd_tbl := gd_in 38 (by decide +kernel) (by decide +kernel)
theorem kV_PinchedBill_172 : kV "PinchedBill" 172 ⟨"PinchedBill", "traced", "(I)LPinchedBill$Reckoner;"⟩ prog_1_method_60_code 3 (some (.object "PinchedBill$Reckoner")) 1 := ⟨k_1135, k_1137, k_38, k_117, k_1138, by decide, by decide, by decide +kernel⟩
theorem d_X8_ends_7 : decode prog_1_method_19_code 7 = .ok (.invokevirtual 172, 3) := by decide +kernel
theorem k_411 : Cond.fieldLink "PinchedBill" 176 "PinchedBill$Reckoner" "end" "I" ∈ gd_tbl := gd_in 411 (by decide +kernel) (by decide +kernel)
theorem d_X8_ends_10 : decode prog_1_method_19_code 10 = .ok (.getfield 176, 3) := by decide +kernel
theorem d_X8_ends_13 : decode prog_1_method_19_code 13 = .ok (.ireturn, 1) := by decide +kernel
theorem d_X8_takes_0 : decode prog_1_method_20_code 0 = .ok (.aload_n 0, 1) := by decide +kernel
theorem d_X8_takes_1 : decode prog_1_method_20_code 1 = .ok (.iload_n 1, 1) := by decide +kernel
theorem d_X8_takes_2 : decode prog_1_method_20_code 2 = .ok (.invokevirtual 119, 3) := by decide +kernel
theorem d_X8_takes_5 : decode prog_1_method_20_code 5 = .ok (.aload_n 0, 1) := by decide +kernel
theorem d_X8_takes_6 : decode prog_1_method_20_code 6 = .ok (.iload_n 1, 1) := by decide +kernel
theorem d_X8_takes_7 : decode prog_1_method_20_code 7 = .ok (.invokevirtual 172, 3) := by decide +kernel
theorem d_X8_takes_10 : decode prog_1_method_20_code 10 = .ok (.astore_n 2, 1) := by decide +kernel
theorem d_X8_takes_11 : decode prog_1_method_20_code 11 = .ok (.aload_n 2, 1) := by decide +kernel
theorem d_X8_takes_12 : decode prog_1_method_20_code 12 = .ok (.getfield 176, 3) := by decide +kernel
theorem d_X8_takes_15 : decode prog_1_method_20_code 15 = .ok (.iconst (-1), 1) := by decide +kernel
theorem d_X8_takes_16 : decode prog_1_method_20_code 16 = .ok (.if_icmp .ne 7, 3) := by decide +kernel
theorem d_X8_takes_23 : decode prog_1_method_20_code 23 = .ok (.aload_n 2, 1) := by decide +kernel
theorem k_413 : Cond.fieldLink "PinchedBill" 181 "PinchedBill$Reckoner" "length" "I" ∈ gd_tbl := gd_in 413 (by decide +kernel) (by decide +kernel)
theorem d_X8_takes_24 : decode prog_1_method_20_code 24 = .ok (.getfield 181, 3) := by decide +kernel
theorem d_X8_takes_27 : decode prog_1_method_20_code 27 = .ok (.ireturn, 1) := by decide +kernel
theorem d_X8_goes_0 : decode prog_1_method_21_code 0 = .ok (.aload_n 0, 1) := by decide +kernel
theorem d_X8_goes_1 : decode prog_1_method_21_code 1 = .ok (.iload_n 1, 1) := by decide +kernel
theorem d_X8_goes_2 : decode prog_1_method_21_code 2 = .ok (.invokevirtual 119, 3) := by decide +kernel
theorem d_X8_goes_5 : decode prog_1_method_21_code 5 = .ok (.iload_n 2, 1) := by decide +kernel
theorem d_X8_goes_6 : decode prog_1_method_21_code 6 = .ok (.iconst 0, 1) := by decide +kernel
theorem d_X8_goes_7 : decode prog_1_method_21_code 7 = .ok (.sipush 9999, 3) := by decide +kernel
theorem d_X8_goes_10 : decode prog_1_method_21_code 10 = .ok (.invokestatic 53, 3) := by decide +kernel
theorem d_X8_goes_13 : decode prog_1_method_21_code 13 = .ok (.aload_n 0, 1) := by decide +kernel
theorem d_X8_goes_14 : decode prog_1_method_21_code 14 = .ok (.invokevirtual 184, 3) := by decide +kernel
theorem d_X8_goes_17 : decode prog_1_method_21_code 17 = .ok (.iload_n 1, 1) := by decide +kernel
theorem d_X8_goes_18 : decode prog_1_method_21_code 18 = .ok (.iload_n 2, 1) := by decide +kernel
theorem d_X8_goes_19 : decode prog_1_method_21_code 19 = .ok (.aload_n 0, 1) := by decide +kernel
theorem d_X8_goes_20 : decode prog_1_method_21_code 20 = .ok (.getfield 26, 3) := by decide +kernel
theorem d_X8_goes_23 : decode prog_1_method_21_code 23 = .ok (.getfield 92, 3) := by decide +kernel
theorem k_1154 : Cond.methodLink "PinchedBill" 188 ⟨"PinchedBill$Reckoner", "billIn", "(III)I"⟩ ∈ gd_tbl := gd_in 1154 (by decide +kernel) (by decide +kernel)
theorem kV_PinchedBill_188 : kV "PinchedBill" 188 ⟨"PinchedBill$Reckoner", "billIn", "(III)I"⟩ prog_6_method_3_code 4 (some .int) 3 := ⟨k_1154, k_1155, k_1156, k_136, k_1157, by decide, by decide, by decide +kernel⟩
theorem d_X8_goes_26 : decode prog_1_method_21_code 26 = .ok (.invokevirtual 188, 3) := by decide +kernel
theorem d_X8_goes_29 : decode prog_1_method_21_code 29 = .ok (.ireturn, 1) := by decide +kernel
theorem d_X8_ring_0 : decode prog_1_method_22_code 0 = .ok (.aload_n 0, 1) := by decide +kernel
theorem d_X8_ring_1 : decode prog_1_method_22_code 1 = .ok (.iload_n 1, 1) := by decide +kernel
theorem d_X8_ring_2 : decode prog_1_method_22_code 2 = .ok (.invokevirtual 119, 3) := by decide +kernel
theorem d_X8_ring_5 : decode prog_1_method_22_code 5 = .ok (.iload_n 2, 1) := by decide +kernel
theorem d_X8_ring_6 : decode prog_1_method_22_code 6 = .ok (.ifCond .eq 16, 3) := by decide +kernel
theorem d_X8_ring_22 : decode prog_1_method_22_code 22 = .ok (.aload_n 0, 1) := by decide +kernel
theorem d_X8_ring_23 : decode prog_1_method_22_code 23 = .ok (.iload_n 1, 1) := by decide +kernel
theorem d_X8_ring_24 : decode prog_1_method_22_code 24 = .ok (.invokevirtual 172, 3) := by decide +kernel
theorem d_X8_ring_27 : decode prog_1_method_22_code 27 = .ok (.astore_n 3, 1) := by decide +kernel
theorem d_X8_ring_28 : decode prog_1_method_22_code 28 = .ok (.aload_n 3, 1) := by decide +kernel
theorem d_X8_ring_29 : decode prog_1_method_22_code 29 = .ok (.getfield 176, 3) := by decide +kernel
theorem d_X8_ring_32 : decode prog_1_method_22_code 32 = .ok (.iconst (-1), 1) := by decide +kernel
theorem d_X8_ring_33 : decode prog_1_method_22_code 33 = .ok (.if_icmp .eq 5, 3) := by decide +kernel
theorem d_X8_ring_36 : decode prog_1_method_22_code 36 = .ok (.iconst (-1), 1) := by decide +kernel
theorem d_X8_ring_37 : decode prog_1_method_22_code 37 = .ok (.ireturn, 1) := by decide +kernel
theorem d_X8_ring_9 : decode prog_1_method_22_code 9 = .ok (.iload_n 2, 1) := by decide +kernel
theorem d_X8_ring_10 : decode prog_1_method_22_code 10 = .ok (.iconst 1, 1) := by decide +kernel
theorem d_X8_ring_11 : decode prog_1_method_22_code 11 = .ok (.if_icmp .eq 11, 3) := by decide +kernel
theorem d_X8_ring_14 : decode prog_1_method_22_code 14 = .ok (.iload_n 2, 1) := by decide +kernel
theorem d_X8_ring_15 : decode prog_1_method_22_code 15 = .ok (.bipush 10, 2) := by decide +kernel
theorem d_X8_ring_17 : decode prog_1_method_22_code 17 = .ok (.bipush 19, 2) := by decide +kernel
theorem d_X8_ring_19 : decode prog_1_method_22_code 19 = .ok (.invokestatic 53, 3) := by decide +kernel
theorem d_X8_laws_0 : decode prog_1_method_23_code 0 = .ok (.aload_n 0, 1) := by decide +kernel
theorem d_X8_laws_1 : decode prog_1_method_23_code 1 = .ok (.invokevirtual 184, 3) := by decide +kernel
theorem d_X8_laws_4 : decode prog_1_method_23_code 4 = .ok (.aload_n 0, 1) := by decide +kernel
theorem d_X8_laws_5 : decode prog_1_method_23_code 5 = .ok (.getfield 26, 3) := by decide +kernel
theorem d_X8_laws_8 : decode prog_1_method_23_code 8 = .ok (.getfield 92, 3) := by decide +kernel
theorem k_596 : Cond.code ⟨"PinchedBill$Reckoner", "findLaws", "(I)I"⟩ prog_6_method_16_code 4 (some .int) ∈ gd_tbl := gd_in 596 (by decide +kernel) (by decide +kernel)
theorem k_593 : Cond.methodLink "PinchedBill" 195 ⟨"PinchedBill$Reckoner", "findLaws", "(I)I"⟩ ∈ gd_tbl := gd_in 593 (by decide +kernel) (by decide +kernel)
theorem k_594 : Cond.instanceMethod ⟨"PinchedBill$Reckoner", "findLaws", "(I)I"⟩ ∈ gd_tbl := gd_in 594 (by decide +kernel) (by decide +kernel)
theorem k_595 : Cond.selects "PinchedBill$Reckoner" ⟨"PinchedBill$Reckoner", "findLaws", "(I)I"⟩ ⟨"PinchedBill$Reckoner", "findLaws", "(I)I"⟩ ∈ gd_tbl := gd_in 595 (by decide +kernel) (by decide +kernel)
theorem kV_PinchedBill_195 : kV "PinchedBill" 195 ⟨"PinchedBill$Reckoner", "findLaws", "(I)I"⟩ prog_6_method_16_code 4 (some .int) 1 := ⟨k_593, k_594, k_595, k_136, k_596, by decide, by decide, by decide +kernel⟩
theorem d_X8_laws_11 : decode prog_1_method_23_code 11 = .ok (.invokevirtual 195, 3) := by decide +kernel
theorem d_X8_laws_14 : decode prog_1_method_23_code 14 = .ok (.ireturn, 1) := by decide +kernel
theorem d_X8_law_0 : decode prog_1_method_24_code 0 = .ok (.iload_n 1, 1) := by decide +kernel
theorem k_1175 : Cond.code ⟨"PinchedBill", "mustNotBeBelow0", "(I)V"⟩ prog_1_method_50_code 1 none ∈ gd_tbl := gd_in 1175 (by decide +kernel) (by decide +kernel)
theorem k_1173 : Cond.methodLink "PinchedBill" 198 ⟨"PinchedBill", "mustNotBeBelow0", "(I)V"⟩ ∈ gd_tbl := gd_in 1173 (by decide +kernel) (by decide +kernel)
theorem k_1174 : Cond.static ⟨"PinchedBill", "mustNotBeBelow0", "(I)V"⟩ ∈ gd_tbl := gd_in 1174 (by decide +kernel) (by decide +kernel)
theorem kS_PinchedBill_198 : kS "PinchedBill" 198 ⟨"PinchedBill", "mustNotBeBelow0", "(I)V"⟩ prog_1_method_50_code 1 none 1 := ⟨k_1173, k_1174, k_117, k_1175, by decide, by decide, by decide +kernel⟩
theorem d_X8_law_1 : decode prog_1_method_24_code 1 = .ok (.invokestatic 198, 3) := by decide +kernel
theorem d_X8_law_4 : decode prog_1_method_24_code 4 = .ok (.aload_n 0, 1) := by decide +kernel
theorem d_X8_law_5 : decode prog_1_method_24_code 5 = .ok (.invokevirtual 184, 3) := by decide +kernel
theorem d_X8_law_8 : decode prog_1_method_24_code 8 = .ok (.astore_n 2, 1) := by decide +kernel
theorem d_X8_law_9 : decode prog_1_method_24_code 9 = .ok (.aload_n 2, 1) := by decide +kernel
theorem d_X8_law_10 : decode prog_1_method_24_code 10 = .ok (.aload_n 0, 1) := by decide +kernel
theorem d_X8_law_11 : decode prog_1_method_24_code 11 = .ok (.getfield 26, 3) := by decide +kernel
theorem d_X8_law_14 : decode prog_1_method_24_code 14 = .ok (.getfield 92, 3) := by decide +kernel
theorem d_X8_law_17 : decode prog_1_method_24_code 17 = .ok (.invokevirtual 195, 3) := by decide +kernel
theorem d_X8_law_20 : decode prog_1_method_24_code 20 = .ok (.pop, 1) := by decide +kernel
theorem d_X8_law_21 : decode prog_1_method_24_code 21 = .ok (.aload_n 2, 1) := by decide +kernel
theorem d_X8_law_22 : decode prog_1_method_24_code 22 = .ok (.iload_n 1, 1) := by decide +kernel
theorem k_1180 : Cond.code ⟨"PinchedBill$Reckoner", "foundAt", "(I)I"⟩ prog_6_method_20_code 2 (some .int) ∈ gd_tbl := gd_in 1180 (by decide +kernel) (by decide +kernel)
theorem k_1177 : Cond.methodLink "PinchedBill" 201 ⟨"PinchedBill$Reckoner", "foundAt", "(I)I"⟩ ∈ gd_tbl := gd_in 1177 (by decide +kernel) (by decide +kernel)
theorem k_1178 : Cond.instanceMethod ⟨"PinchedBill$Reckoner", "foundAt", "(I)I"⟩ ∈ gd_tbl := gd_in 1178 (by decide +kernel) (by decide +kernel)
theorem k_1179 : Cond.selects "PinchedBill$Reckoner" ⟨"PinchedBill$Reckoner", "foundAt", "(I)I"⟩ ⟨"PinchedBill$Reckoner", "foundAt", "(I)I"⟩ ∈ gd_tbl := gd_in 1179 (by decide +kernel) (by decide +kernel)
theorem kV_PinchedBill_201 : kV "PinchedBill" 201 ⟨"PinchedBill$Reckoner", "foundAt", "(I)I"⟩ prog_6_method_20_code 2 (some .int) 1 := ⟨k_1177, k_1178, k_1179, k_136, k_1180, by decide, by decide, by decide +kernel⟩
theorem d_X8_law_23 : decode prog_1_method_24_code 23 = .ok (.invokevirtual 201, 3) := by decide +kernel
theorem d_X8_law_26 : decode prog_1_method_24_code 26 = .ok (.ireturn, 1) := by decide +kernel
theorem d_X8_into_0 : decode prog_1_method_25_code 0 = .ok (.aload_n 0, 1) := by decide +kernel
theorem d_X8_into_1 : decode prog_1_method_25_code 1 = .ok (.iload_n 1, 1) := by decide +kernel
theorem d_X8_into_2 : decode prog_1_method_25_code 2 = .ok (.invokevirtual 119, 3) := by decide +kernel
theorem d_X8_into_5 : decode prog_1_method_25_code 5 = .ok (.aload_n 0, 1) := by decide +kernel
theorem d_X8_into_6 : decode prog_1_method_25_code 6 = .ok (.invokevirtual 184, 3) := by decide +kernel
theorem d_X8_into_9 : decode prog_1_method_25_code 9 = .ok (.iload_n 1, 1) := by decide +kernel
theorem d_X8_into_10 : decode prog_1_method_25_code 10 = .ok (.aload_n 0, 1) := by decide +kernel
theorem d_X8_into_11 : decode prog_1_method_25_code 11 = .ok (.getfield 26, 3) := by decide +kernel
theorem d_X8_into_14 : decode prog_1_method_25_code 14 = .ok (.getfield 92, 3) := by decide +kernel
theorem k_621 : Cond.code ⟨"PinchedBill$Reckoner", "howManyEndIn", "(II)I"⟩ prog_6_method_7_code 5 (some .int) ∈ gd_tbl := gd_in 621 (by decide +kernel) (by decide +kernel)
theorem k_618 : Cond.methodLink "PinchedBill" 204 ⟨"PinchedBill$Reckoner", "howManyEndIn", "(II)I"⟩ ∈ gd_tbl := gd_in 618 (by decide +kernel) (by decide +kernel)
theorem k_619 : Cond.instanceMethod ⟨"PinchedBill$Reckoner", "howManyEndIn", "(II)I"⟩ ∈ gd_tbl := gd_in 619 (by decide +kernel) (by decide +kernel)
theorem k_620 : Cond.selects "PinchedBill$Reckoner" ⟨"PinchedBill$Reckoner", "howManyEndIn", "(II)I"⟩ ⟨"PinchedBill$Reckoner", "howManyEndIn", "(II)I"⟩ ∈ gd_tbl := gd_in 620 (by decide +kernel) (by decide +kernel)
theorem kV_PinchedBill_204 : kV "PinchedBill" 204 ⟨"PinchedBill$Reckoner", "howManyEndIn", "(II)I"⟩ prog_6_method_7_code 5 (some .int) 2 := ⟨k_618, k_619, k_620, k_136, k_621, by decide, by decide, by decide +kernel⟩
theorem d_X8_into_17 : decode prog_1_method_25_code 17 = .ok (.invokevirtual 204, 3) := by decide +kernel
theorem d_X8_into_20 : decode prog_1_method_25_code 20 = .ok (.ireturn, 1) := by decide +kernel
theorem d_X8_endless_0 : decode prog_1_method_26_code 0 = .ok (.aload_n 0, 1) := by decide +kernel
theorem d_X8_endless_1 : decode prog_1_method_26_code 1 = .ok (.invokevirtual 184, 3) := by decide +kernel
theorem d_X8_endless_4 : decode prog_1_method_26_code 4 = .ok (.iconst (-1), 1) := by decide +kernel
theorem d_X8_endless_5 : decode prog_1_method_26_code 5 = .ok (.aload_n 0, 1) := by decide +kernel
theorem d_X8_endless_6 : decode prog_1_method_26_code 6 = .ok (.getfield 26, 3) := by decide +kernel
theorem d_X8_endless_9 : decode prog_1_method_26_code 9 = .ok (.getfield 92, 3) := by decide +kernel
theorem d_X8_endless_12 : decode prog_1_method_26_code 12 = .ok (.invokevirtual 204, 3) := by decide +kernel
theorem d_X8_endless_15 : decode prog_1_method_26_code 15 = .ok (.ireturn, 1) := by decide +kernel
theorem d_X8_longest_0 : decode prog_1_method_27_code 0 = .ok (.aload_n 0, 1) := by decide +kernel
theorem d_X8_longest_1 : decode prog_1_method_27_code 1 = .ok (.invokevirtual 184, 3) := by decide +kernel
theorem d_X8_longest_4 : decode prog_1_method_27_code 4 = .ok (.aload_n 0, 1) := by decide +kernel
theorem d_X8_longest_5 : decode prog_1_method_27_code 5 = .ok (.getfield 26, 3) := by decide +kernel
theorem d_X8_longest_8 : decode prog_1_method_27_code 8 = .ok (.getfield 92, 3) := by decide +kernel
theorem k_647 : Cond.code ⟨"PinchedBill$Reckoner", "longestWay", "(I)I"⟩ prog_6_method_8_code 5 (some .int) ∈ gd_tbl := gd_in 647 (by decide +kernel) (by decide +kernel)
theorem k_644 : Cond.methodLink "PinchedBill" 207 ⟨"PinchedBill$Reckoner", "longestWay", "(I)I"⟩ ∈ gd_tbl := gd_in 644 (by decide +kernel) (by decide +kernel)
theorem k_645 : Cond.instanceMethod ⟨"PinchedBill$Reckoner", "longestWay", "(I)I"⟩ ∈ gd_tbl := gd_in 645 (by decide +kernel) (by decide +kernel)
theorem k_646 : Cond.selects "PinchedBill$Reckoner" ⟨"PinchedBill$Reckoner", "longestWay", "(I)I"⟩ ⟨"PinchedBill$Reckoner", "longestWay", "(I)I"⟩ ∈ gd_tbl := gd_in 646 (by decide +kernel) (by decide +kernel)
theorem kV_PinchedBill_207 : kV "PinchedBill" 207 ⟨"PinchedBill$Reckoner", "longestWay", "(I)I"⟩ prog_6_method_8_code 5 (some .int) 1 := ⟨k_644, k_645, k_646, k_136, k_647, by decide, by decide, by decide +kernel⟩
theorem d_X8_longest_11 : decode prog_1_method_27_code 11 = .ok (.invokevirtual 207, 3) := by decide +kernel
theorem d_X8_longest_14 : decode prog_1_method_27_code 14 = .ok (.ireturn, 1) := by decide +kernel
def wB (a : Nat) : Int32 := if bB (nI a) = 1 then 0 else 1
/-- fault(w) on a fresh object -/
def fF (w : Int32) : Int32 := if w = 0 then 0 else -1
set_option maxHeartbeats 4000000 in
set_option maxRecDepth 100000 in
theorem c_eldest (l : Launch) (D : va_G) (ty : Nat → ClassId) (nw : Nat) (n0 : Nat) (n1 : Nat) (n2 : Nat) (n3 : Nat) (wb : Int32) (wk : Int32) (d : Int32) (pa : Nat → Int32) (pb : Nat → Int32) (pc_ : Nat → Int32) : CC l D ty ⟨"PinchedBill$Standing", "forgetEldest", "()V"⟩ prog_7_method_4_code 1 none 1 40 0 0 [.ref nw] [(nw, eO 5 [.ref n0, .int 0, .int d, .ref n1, .ref n2, .ref n3]), (n0, eO 7 [.int wb, .int wk]), (n1, eI (ty 0) 10 pa), (n2, eI (ty 0) 10 pb), (n3, eI (ty 0) 10 pc_)] (QV D ty (fun (w : va_W) => ∃ (pa9 : Nat → Int32) (pb9 : Nat → Int32) (pc9 : Nat → Int32), w = [(nw, eO 5 [.ref n0, .int 0, .int 9, .ref n1, .ref n2, .ref n3]), (n0, eO 7 [.int wb, .int wk]), (n1, eI (ty 0) 10 pa9), (n2, eI (ty 0) 10 pb9), (n3, eI (ty 0) 10 pc9)])) := by
  refine CC_of (by decide) ?_
  intro p e s m below meth c A C hP hD hS
  obtain ⟨⟨hx, hb, hml, hown, hts⟩, hr, hlocks, hnm, hK, hE, hA, hZ⟩ := id C
  refine startW [.ref nw] 1 (nle rfl) (lv := [(0, .ref nw)]) rfl (fun ls hl => ?_)
  refine lv_aload_n hx hb d_X5_forgetEldest_0 rfl (lv_at hl 0 rfl) ?_
  refine lv_bipush (v := 9) hx hb d_X5_forgetEldest_1 (by decide) ?_
  refine r_put (w := [(nw, eO 5 [.ref n0, .int 0, .int 9, .ref n1, .ref n2, .ref n3]), (n0, eO 7 [.int wb, .int wk]), (n1, eI (ty 0) 10 pa), (n2, eI (ty 0) 10 pb), (n3, eI (ty 0) 10 pc_)]) C hP hD hS 0 rfl rfl lay_X5 tok_X5 nmo_X5 2 (by decide) k_298 rfl rfl rfl (nle rfl) rfl d_X5_forgetEldest_3 (fun H locs hP hD hS => ?_)
  refine lv_aload_n hx hb d_X5_forgetEldest_6 rfl (lv_at hl 0 rfl) ?_
  refine r_get (v := .ref n1) C hP 0 rfl rfl lay_X5 3 (by decide) k_300 rfl d_X5_forgetEldest_7 ?_
  refine lv_iconst (v := 1) hx hb d_X5_forgetEldest_10 (by decide) ?_
  refine lv_aload_n hx hb d_X5_forgetEldest_11 rfl (lv_at hl 0 rfl) ?_
  refine r_get (v := .ref n1) C hP 0 rfl rfl lay_X5 3 (by decide) k_300 rfl d_X5_forgetEldest_12 ?_
  refine lv_iconst (v := 0) hx hb d_X5_forgetEldest_15 (by decide) ?_
  refine lv_aload_n hx hb d_X5_forgetEldest_16 rfl (lv_at hl 0 rfl) ?_
  refine r_get (v := .int 9) C hP 0 rfl rfl lay_X5 2 (by decide) k_298 rfl d_X5_forgetEldest_17 ?_
  refine va_copyi hx hb (hml.trans hl.1.symm) hown (hts _ k_542) (hts _ k_544) (hts _ k_543) (hts _ k_134) hK hP hD hS 2 2 0 0 rfl rfl rfl rfl rfl (by decide) (by decide) (by decide) (by decide) (by decide) (fun _ _ => rfl) (by decide) (nle rfl) d_X5_forgetEldest_20 (fun H locs hP hD hS => ?_)
  have hP : va_P D vwCl [(nw, eO 5 [.ref n0, .int 0, .int 9, .ref n1, .ref n2, .ref n3]), (n0, eO 7 [.int wb, .int wk]), (n1, eI (ty 0) 10 (va_cpy pa pa 1 0 9)), (n2, eI (ty 0) 10 pb), (n3, eI (ty 0) 10 pc_)] H := hP
  have hD : va_D A [(nw, eO 5 [.ref n0, .int 0, .int 9, .ref n1, .ref n2, .ref n3]), (n0, eO 7 [.int wb, .int wk]), (n1, eI (ty 0) 10 (va_cpy pa pa 1 0 9)), (n2, eI (ty 0) 10 pb), (n3, eI (ty 0) 10 pc_)] := hD
  refine lv_aload_n hx hb d_X5_forgetEldest_23 rfl (lv_at hl 0 rfl) ?_
  refine r_get (v := .ref n2) C hP 0 rfl rfl lay_X5 4 (by decide) k_301 rfl d_X5_forgetEldest_24 ?_
  refine lv_iconst (v := 1) hx hb d_X5_forgetEldest_27 (by decide) ?_
  refine lv_aload_n hx hb d_X5_forgetEldest_28 rfl (lv_at hl 0 rfl) ?_
  refine r_get (v := .ref n2) C hP 0 rfl rfl lay_X5 4 (by decide) k_301 rfl d_X5_forgetEldest_29 ?_
  refine lv_iconst (v := 0) hx hb d_X5_forgetEldest_32 (by decide) ?_
  refine lv_aload_n hx hb d_X5_forgetEldest_33 rfl (lv_at hl 0 rfl) ?_
  refine r_get (v := .int 9) C hP 0 rfl rfl lay_X5 2 (by decide) k_298 rfl d_X5_forgetEldest_34 ?_
  refine va_copyi hx hb (hml.trans hl.1.symm) hown (hts _ k_542) (hts _ k_544) (hts _ k_543) (hts _ k_134) hK hP hD hS 3 3 0 0 rfl rfl rfl rfl rfl (by decide) (by decide) (by decide) (by decide) (by decide) (fun _ _ => rfl) (by decide) (nle rfl) d_X5_forgetEldest_37 (fun H locs hP hD hS => ?_)
  have hP : va_P D vwCl [(nw, eO 5 [.ref n0, .int 0, .int 9, .ref n1, .ref n2, .ref n3]), (n0, eO 7 [.int wb, .int wk]), (n1, eI (ty 0) 10 (va_cpy pa pa 1 0 9)), (n2, eI (ty 0) 10 (va_cpy pb pb 1 0 9)), (n3, eI (ty 0) 10 pc_)] H := hP
  have hD : va_D A [(nw, eO 5 [.ref n0, .int 0, .int 9, .ref n1, .ref n2, .ref n3]), (n0, eO 7 [.int wb, .int wk]), (n1, eI (ty 0) 10 (va_cpy pa pa 1 0 9)), (n2, eI (ty 0) 10 (va_cpy pb pb 1 0 9)), (n3, eI (ty 0) 10 pc_)] := hD
  refine lv_aload_n hx hb d_X5_forgetEldest_40 rfl (lv_at hl 0 rfl) ?_
  refine r_get (v := .ref n3) C hP 0 rfl rfl lay_X5 5 (by decide) k_302 rfl d_X5_forgetEldest_41 ?_
  refine lv_iconst (v := 1) hx hb d_X5_forgetEldest_44 (by decide) ?_
  refine lv_aload_n hx hb d_X5_forgetEldest_45 rfl (lv_at hl 0 rfl) ?_
  refine r_get (v := .ref n3) C hP 0 rfl rfl lay_X5 5 (by decide) k_302 rfl d_X5_forgetEldest_46 ?_
  refine lv_iconst (v := 0) hx hb d_X5_forgetEldest_49 (by decide) ?_
  refine lv_aload_n hx hb d_X5_forgetEldest_50 rfl (lv_at hl 0 rfl) ?_
  refine r_get (v := .int 9) C hP 0 rfl rfl lay_X5 2 (by decide) k_298 rfl d_X5_forgetEldest_51 ?_
  refine va_copyi hx hb (hml.trans hl.1.symm) hown (hts _ k_542) (hts _ k_544) (hts _ k_543) (hts _ k_134) hK hP hD hS 4 4 0 0 rfl rfl rfl rfl rfl (by decide) (by decide) (by decide) (by decide) (by decide) (fun _ _ => rfl) (by decide) (nle rfl) d_X5_forgetEldest_54 (fun H locs hP hD hS => ?_)
  have hP : va_P D vwCl [(nw, eO 5 [.ref n0, .int 0, .int 9, .ref n1, .ref n2, .ref n3]), (n0, eO 7 [.int wb, .int wk]), (n1, eI (ty 0) 10 (va_cpy pa pa 1 0 9)), (n2, eI (ty 0) 10 (va_cpy pb pb 1 0 9)), (n3, eI (ty 0) 10 (va_cpy pc_ pc_ 1 0 9))] H := hP
  have hD : va_D A [(nw, eO 5 [.ref n0, .int 0, .int 9, .ref n1, .ref n2, .ref n3]), (n0, eO 7 [.int wb, .int wk]), (n1, eI (ty 0) 10 (va_cpy pa pa 1 0 9)), (n2, eI (ty 0) 10 (va_cpy pb pb 1 0 9)), (n3, eI (ty 0) 10 (va_cpy pc_ pc_ 1 0 9))] := hD
  exact ret_V (w := [(nw, eO 5 [.ref n0, .int 0, .int 9, .ref n1, .ref n2, .ref n3]), (n0, eO 7 [.int wb, .int wk]), (n1, eI (ty 0) 10 (va_cpy pa pa 1 0 9)), (n2, eI (ty 0) 10 (va_cpy pb pb 1 0 9)), (n3, eI (ty 0) 10 (va_cpy pc_ pc_ 1 0 9))]) C hP hD hS [0, 1, 2, 3, 4] rfl rfl ⟨(va_cpy pa pa 1 0 9), (va_cpy pb pb 1 0 9), (va_cpy pc_ pc_ 1 0 9), rfl⟩ (by decide) (by decide) d_X5_forgetEldest_57
set_option maxHeartbeats 4000000 in
set_option maxRecDepth 100000 in
theorem c_record (l : Launch) (D : va_G) (ty : Nat → ClassId) (nw : Nat) (n0 : Nat) (n1 : Nat) (n2 : Nat) (n3 : Nat) (wb : Int32) (wk : Int32) (d : Nat) (pa : Nat → Int32) (pb : Nat → Int32) (pc_ : Nat → Int32) (hd : d < 11) : CC l D ty ⟨"PinchedBill$Standing", "record", "()V"⟩ prog_7_method_3_code 1 none 2 60 0 0 [.ref nw] [(nw, eO 5 [.ref n0, .int 0, .int (nI d), .ref n1, .ref n2, .ref n3]), (n0, eO 7 [.int wb, .int wk]), (n1, eI (ty 0) 10 pa), (n2, eI (ty 0) 10 pb), (n3, eI (ty 0) 10 pc_)] (QV D ty (fun (w : va_W) => ∃ (d9 : Nat) (pa9 : Nat → Int32) (pb9 : Nat → Int32) (pc9 : Nat → Int32), (d9 < 11) ∧ w = [(nw, eO 5 [.ref n0, .int 0, .int (nI d9), .ref n1, .ref n2, .ref n3]), (n0, eO 7 [.int wb, .int wk]), (n1, eI (ty 0) 10 pa9), (n2, eI (ty 0) 10 pb9), (n3, eI (ty 0) 10 pc9)])) := by
  refine CC_of (by decide) ?_
  intro p e s m below meth c A C hP hD hS
  obtain ⟨⟨hx, hb, hml, hown, hts⟩, hr, hlocks, hnm, hK, hE, hA, hZ⟩ := id C
  refine startW [.ref nw] 1 (nle rfl) (lv := [(0, .ref nw)]) rfl (fun ls hl => ?_)
  refine lv_aload_n hx hb d_X5_record_0 rfl (lv_at hl 0 rfl) ?_
  refine r_get (v := .int (nI d)) C hP 0 rfl rfl lay_X5 2 (by decide) k_298 rfl d_X5_record_1 ?_
  refine lv_bipush (v := 10) hx hb d_X5_record_4 (by decide) ?_
  refine lv_icmp_lt (tgt := 13) hx hb d_X5_record_6 (by decide) (fun hc_1 => ?_) (fun hc_1 => ?_)
  · have hc_1 := un_lt d 10 rfl rfl (by omega) (by omega) hc_1
    refine lv_aload_n hx hb d_X5_record_13 rfl (lv_at hl 0 rfl) ?_
    refine r_get (v := .ref n1) C hP 0 rfl rfl lay_X5 3 (by decide) k_300 rfl d_X5_record_14 ?_
    refine lv_aload_n hx hb d_X5_record_17 rfl (lv_at hl 0 rfl) ?_
    refine r_get (v := .int (nI d)) C hP 0 rfl rfl lay_X5 2 (by decide) k_298 rfl d_X5_record_18 ?_
    refine lv_aload_n hx hb d_X5_record_21 rfl (lv_at hl 0 rfl) ?_
    refine r_get (v := .ref n0) C hP 0 rfl rfl lay_X5 0 (by decide) k_294 rfl d_X5_record_22 ?_
    refine r_get (v := .int wb) C hP 1 rfl rfl lay_X7 0 (by decide) k_280 rfl d_X5_record_25 ?_
    refine r_iast (w := [(nw, eO 5 [.ref n0, .int 0, .int (nI d), .ref n1, .ref n2, .ref n3]), (n0, eO 7 [.int wb, .int wk]), (n1, eI (ty 0) 10 (upd pa d wb)), (n2, eI (ty 0) 10 pb), (n3, eI (ty 0) 10 pc_)]) C hP hD hS 2 rfl d rfl (by omega) (by decide) rfl d_X5_record_28 (fun H locs hP hD hS => ?_)
    refine lv_aload_n hx hb d_X5_record_29 rfl (lv_at hl 0 rfl) ?_
    refine r_get (v := .ref n2) C hP 0 rfl rfl lay_X5 4 (by decide) k_301 rfl d_X5_record_30 ?_
    refine lv_aload_n hx hb d_X5_record_33 rfl (lv_at hl 0 rfl) ?_
    refine r_get (v := .int (nI d)) C hP 0 rfl rfl lay_X5 2 (by decide) k_298 rfl d_X5_record_34 ?_
    refine lv_aload_n hx hb d_X5_record_37 rfl (lv_at hl 0 rfl) ?_
    refine r_get (v := .ref n0) C hP 0 rfl rfl lay_X5 0 (by decide) k_294 rfl d_X5_record_38 ?_
    refine r_get (v := .int wk) C hP 1 rfl rfl lay_X7 1 (by decide) k_285 rfl d_X5_record_41 ?_
    refine r_iast (w := [(nw, eO 5 [.ref n0, .int 0, .int (nI d), .ref n1, .ref n2, .ref n3]), (n0, eO 7 [.int wb, .int wk]), (n1, eI (ty 0) 10 (upd pa d wb)), (n2, eI (ty 0) 10 (upd pb d wk)), (n3, eI (ty 0) 10 pc_)]) C hP hD hS 3 rfl d rfl (by omega) (by decide) rfl d_X5_record_44 (fun H locs hP hD hS => ?_)
    refine lv_aload_n hx hb d_X5_record_45 rfl (lv_at hl 0 rfl) ?_
    refine r_get (v := .ref n3) C hP 0 rfl rfl lay_X5 5 (by decide) k_302 rfl d_X5_record_46 ?_
    refine lv_aload_n hx hb d_X5_record_49 rfl (lv_at hl 0 rfl) ?_
    refine r_get (v := .int (nI d)) C hP 0 rfl rfl lay_X5 2 (by decide) k_298 rfl d_X5_record_50 ?_
    refine lv_aload_n hx hb d_X5_record_53 rfl (lv_at hl 0 rfl) ?_
    refine r_get (v := .int 0) C hP 0 rfl rfl lay_X5 1 (by decide) k_296 rfl d_X5_record_54 ?_
    refine r_iast (w := [(nw, eO 5 [.ref n0, .int 0, .int (nI d), .ref n1, .ref n2, .ref n3]), (n0, eO 7 [.int wb, .int wk]), (n1, eI (ty 0) 10 (upd pa d wb)), (n2, eI (ty 0) 10 (upd pb d wk)), (n3, eI (ty 0) 10 (upd pc_ d 0))]) C hP hD hS 4 rfl d rfl (by omega) (by decide) rfl d_X5_record_57 (fun H locs hP hD hS => ?_)
    refine lv_aload_n hx hb d_X5_record_58 rfl (lv_at hl 0 rfl) ?_
    refine lv_dup hx hb d_X5_record_59 rfl ?_
    refine r_get (v := .int (nI d)) C hP 0 rfl rfl lay_X5 2 (by decide) k_298 rfl d_X5_record_60 ?_
    refine lv_iconst (v := 1) hx hb d_X5_record_63 (by decide) ?_
    refine r_iadd (z := (nI (d + 1))) C d_X5_record_64 (a_add d 1 (d + 1) rfl rfl (by omega)) ?_
    refine r_put (w := [(nw, eO 5 [.ref n0, .int 0, .int (nI (d + 1)), .ref n1, .ref n2, .ref n3]), (n0, eO 7 [.int wb, .int wk]), (n1, eI (ty 0) 10 (upd pa d wb)), (n2, eI (ty 0) 10 (upd pb d wk)), (n3, eI (ty 0) 10 (upd pc_ d 0))]) C hP hD hS 0 rfl rfl lay_X5 tok_X5 nmo_X5 2 (by decide) k_298 rfl rfl rfl (nle rfl) rfl d_X5_record_65 (fun H locs hP hD hS => ?_)
    exact ret_V (w := [(nw, eO 5 [.ref n0, .int 0, .int (nI (d + 1)), .ref n1, .ref n2, .ref n3]), (n0, eO 7 [.int wb, .int wk]), (n1, eI (ty 0) 10 (upd pa d wb)), (n2, eI (ty 0) 10 (upd pb d wk)), (n3, eI (ty 0) 10 (upd pc_ d 0))]) C hP hD hS [0, 1, 2, 3, 4] rfl rfl ⟨(d + 1), (upd pa d wb), (upd pb d wk), (upd pc_ d 0), (by omega), rfl⟩ (by decide) (by decide) d_X5_record_68
  · have hc_1 := un_nlt d 10 rfl rfl (by omega) (by omega) hc_1
    refine lv_aload_n hx hb d_X5_record_9 rfl (lv_at hl 0 rfl) ?_
    have ct_2 : Cut [(nw, eO 5 [.ref n0, .int 0, .int (nI d), .ref n1, .ref n2, .ref n3]), (n0, eO 7 [.int wb, .int wk]), (n1, eI (ty 0) 10 pa), (n2, eI (ty 0) 10 pb), (n3, eI (ty 0) 10 pc_)] [(nw, eO 5 [.ref n0, .int 0, .int (nI d), .ref n1, .ref n2, .ref n3]), (n0, eO 7 [.int wb, .int wk]), (n1, eI (ty 0) 10 pa), (n2, eI (ty 0) 10 pb), (n3, eI (ty 0) 10 pc_)] [] [0, 1, 2, 3, 4] [] := ⟨rfl, rfl, rfl, rfl, by decide⟩
    refine cont_V C hP hD hS ct_2 (run_V (As := []) (rest := []) C hP hD hS ct_2 (c_eldest l D ty nw n0 n1 n2 n3 wb wk (nI d) pa pb pc_) kV_PinchedBill_Standing_45 0 rfl rfl rfl rfl hl.1 rfl (nle rfl) d_X5_record_10 ⟨by decide, by decide, by decide, by decide⟩) (fun w_8 H locs hw_6 hP hD hS => ?_)
    obtain ⟨pa9_3, pb9_4, pc9_5, rfl⟩ := hw_6
    have hP : va_P D vwCl [(nw, eO 5 [.ref n0, .int 0, .int 9, .ref n1, .ref n2, .ref n3]), (n0, eO 7 [.int wb, .int wk]), (n1, eI (ty 0) 10 pa9_3), (n2, eI (ty 0) 10 pb9_4), (n3, eI (ty 0) 10 pc9_5)] H := hP
    have hD : va_D A [(nw, eO 5 [.ref n0, .int 0, .int 9, .ref n1, .ref n2, .ref n3]), (n0, eO 7 [.int wb, .int wk]), (n1, eI (ty 0) 10 pa9_3), (n2, eI (ty 0) 10 pb9_4), (n3, eI (ty 0) 10 pc9_5)] := hD
    refine lv_aload_n hx hb d_X5_record_13 rfl (lv_at hl 0 rfl) ?_
    refine r_get (v := .ref n1) C hP 0 rfl rfl lay_X5 3 (by decide) k_300 rfl d_X5_record_14 ?_
    refine lv_aload_n hx hb d_X5_record_17 rfl (lv_at hl 0 rfl) ?_
    refine r_get (v := .int 9) C hP 0 rfl rfl lay_X5 2 (by decide) k_298 rfl d_X5_record_18 ?_
    refine lv_aload_n hx hb d_X5_record_21 rfl (lv_at hl 0 rfl) ?_
    refine r_get (v := .ref n0) C hP 0 rfl rfl lay_X5 0 (by decide) k_294 rfl d_X5_record_22 ?_
    refine r_get (v := .int wb) C hP 1 rfl rfl lay_X7 0 (by decide) k_280 rfl d_X5_record_25 ?_
    refine r_iast (w := [(nw, eO 5 [.ref n0, .int 0, .int 9, .ref n1, .ref n2, .ref n3]), (n0, eO 7 [.int wb, .int wk]), (n1, eI (ty 0) 10 (upd pa9_3 9 wb)), (n2, eI (ty 0) 10 pb9_4), (n3, eI (ty 0) 10 pc9_5)]) C hP hD hS 2 rfl 9 rfl (by decide) (by decide) rfl d_X5_record_28 (fun H locs hP hD hS => ?_)
    refine lv_aload_n hx hb d_X5_record_29 rfl (lv_at hl 0 rfl) ?_
    refine r_get (v := .ref n2) C hP 0 rfl rfl lay_X5 4 (by decide) k_301 rfl d_X5_record_30 ?_
    refine lv_aload_n hx hb d_X5_record_33 rfl (lv_at hl 0 rfl) ?_
    refine r_get (v := .int 9) C hP 0 rfl rfl lay_X5 2 (by decide) k_298 rfl d_X5_record_34 ?_
    refine lv_aload_n hx hb d_X5_record_37 rfl (lv_at hl 0 rfl) ?_
    refine r_get (v := .ref n0) C hP 0 rfl rfl lay_X5 0 (by decide) k_294 rfl d_X5_record_38 ?_
    refine r_get (v := .int wk) C hP 1 rfl rfl lay_X7 1 (by decide) k_285 rfl d_X5_record_41 ?_
    refine r_iast (w := [(nw, eO 5 [.ref n0, .int 0, .int 9, .ref n1, .ref n2, .ref n3]), (n0, eO 7 [.int wb, .int wk]), (n1, eI (ty 0) 10 (upd pa9_3 9 wb)), (n2, eI (ty 0) 10 (upd pb9_4 9 wk)), (n3, eI (ty 0) 10 pc9_5)]) C hP hD hS 3 rfl 9 rfl (by decide) (by decide) rfl d_X5_record_44 (fun H locs hP hD hS => ?_)
    refine lv_aload_n hx hb d_X5_record_45 rfl (lv_at hl 0 rfl) ?_
    refine r_get (v := .ref n3) C hP 0 rfl rfl lay_X5 5 (by decide) k_302 rfl d_X5_record_46 ?_
    refine lv_aload_n hx hb d_X5_record_49 rfl (lv_at hl 0 rfl) ?_
    refine r_get (v := .int 9) C hP 0 rfl rfl lay_X5 2 (by decide) k_298 rfl d_X5_record_50 ?_
    refine lv_aload_n hx hb d_X5_record_53 rfl (lv_at hl 0 rfl) ?_
    refine r_get (v := .int 0) C hP 0 rfl rfl lay_X5 1 (by decide) k_296 rfl d_X5_record_54 ?_
    refine r_iast (w := [(nw, eO 5 [.ref n0, .int 0, .int 9, .ref n1, .ref n2, .ref n3]), (n0, eO 7 [.int wb, .int wk]), (n1, eI (ty 0) 10 (upd pa9_3 9 wb)), (n2, eI (ty 0) 10 (upd pb9_4 9 wk)), (n3, eI (ty 0) 10 (upd pc9_5 9 0))]) C hP hD hS 4 rfl 9 rfl (by decide) (by decide) rfl d_X5_record_57 (fun H locs hP hD hS => ?_)
    refine lv_aload_n hx hb d_X5_record_58 rfl (lv_at hl 0 rfl) ?_
    refine lv_dup hx hb d_X5_record_59 rfl ?_
    refine r_get (v := .int 9) C hP 0 rfl rfl lay_X5 2 (by decide) k_298 rfl d_X5_record_60 ?_
    refine lv_iconst (v := 1) hx hb d_X5_record_63 (by decide) ?_
    refine r_iadd (z := 10) C d_X5_record_64 (by decide) ?_
    refine r_put (w := [(nw, eO 5 [.ref n0, .int 0, .int 10, .ref n1, .ref n2, .ref n3]), (n0, eO 7 [.int wb, .int wk]), (n1, eI (ty 0) 10 (upd pa9_3 9 wb)), (n2, eI (ty 0) 10 (upd pb9_4 9 wk)), (n3, eI (ty 0) 10 (upd pc9_5 9 0))]) C hP hD hS 0 rfl rfl lay_X5 tok_X5 nmo_X5 2 (by decide) k_298 rfl rfl rfl (nle rfl) rfl d_X5_record_65 (fun H locs hP hD hS => ?_)
    exact ret_V (w := [(nw, eO 5 [.ref n0, .int 0, .int 10, .ref n1, .ref n2, .ref n3]), (n0, eO 7 [.int wb, .int wk]), (n1, eI (ty 0) 10 (upd pa9_3 9 wb)), (n2, eI (ty 0) 10 (upd pb9_4 9 wk)), (n3, eI (ty 0) 10 (upd pc9_5 9 0))]) C hP hD hS [0, 1, 2, 3, 4] rfl rfl ⟨10, (upd pa9_3 9 wb), (upd pb9_4 9 wk), (upd pc9_5 9 0), (by omega), rfl⟩ (by decide) (by decide) d_X5_record_68
set_option maxHeartbeats 4000000 in
set_option maxRecDepth 100000 in
theorem c_put (l : Launch) (D : va_G) (ty : Nat → ClassId) (rd : Nat) (rh : Nat) (rt : Nat) (k : Nat) (tp : Nat → Int32) (x : Int32) (hk : k < 800) : CC l D ty ⟨"PinchedBill$Reader", "putOnTape", "(I)V"⟩ prog_5_method_2_code 3 none 0 0 0 0 [.ref rd, .int x] [(rd, eO 3 [.int (nI k), .int 0, .int (-1), .ref rh, .ref rt, .int 0, .int 0, .int 0, .int 0, .int 0, .int 0]), (rt, eI (ty 1) 900 tp)] (QV D ty (fun (w : va_W) => ∃ (tp9 : Nat → Int32), w = [(rd, eO 3 [.int (nI (k + 4)), .int 0, .int (-1), .ref rh, .ref rt, .int 0, .int 0, .int 0, .int 0, .int 0, .int 0]), (rt, eI (ty 1) 900 tp9)])) := by
  refine CC_of (by decide) ?_
  intro p e s m below meth c A C hP hD hS
  obtain ⟨⟨hx, hb, hml, hown, hts⟩, hr, hlocks, hnm, hK, hE, hA, hZ⟩ := id C
  refine startW [.ref rd, .int x] 3 (nle rfl) (lv := [(0, .ref rd), (1, .int x)]) rfl (fun ls hl => ?_)
  refine lv_bipush (v := 24) hx hb d_X3_putOnTape_0 (by decide) ?_
  refine lv_istore_n (lv' := [(2, .int 24), (0, .ref rd), (1, .int x)]) hx hb d_X3_putOnTape_2 rfl hl (by decide) rfl (fun ls hl => ?_)
  refine lv_iload_n hx hb d_X3_putOnTape_3 rfl (lv_at hl 0 rfl) ?_
  refine b_if_ltF C 46 d_X3_putOnTape_4 (by decide) (by decide) ?_
  refine lv_aload_n hx hb d_X3_putOnTape_7 rfl (lv_at hl 1 rfl) ?_
  refine r_get (v := .int (nI k)) C hP 0 rfl rfl lay_X3 0 (by decide) k_227 rfl d_X3_putOnTape_8 ?_
  refine lv_sipush (v := 900) hx hb d_X3_putOnTape_11 (by decide) ?_
  refine b_icmp_geF C 40 d_X3_putOnTape_14 (by decide) (n_nle 900 k rfl rfl (by omega) (by omega)) ?_
  refine lv_aload_n hx hb d_X3_putOnTape_17 rfl (lv_at hl 1 rfl) ?_
  refine r_get (v := .ref rt) C hP 0 rfl rfl lay_X3 4 (by decide) k_234 rfl d_X3_putOnTape_18 ?_
  refine lv_aload_n hx hb d_X3_putOnTape_21 rfl (lv_at hl 1 rfl) ?_
  refine r_get (v := .int (nI k)) C hP 0 rfl rfl lay_X3 0 (by decide) k_227 rfl d_X3_putOnTape_22 ?_
  refine lv_iload_n hx hb d_X3_putOnTape_25 rfl (lv_at hl 2 rfl) ?_
  refine lv_iload_n hx hb d_X3_putOnTape_26 rfl (lv_at hl 0 rfl) ?_
  refine r_ishr (z := (x >>> (24 &&& 31))) C d_X3_putOnTape_27 rfl ?_
  refine lv_i2b (v := ((x >>> (24 &&& 31))).toInt8.toInt32) hx hb d_X3_putOnTape_28 rfl ?_
  refine r_bast (w := [(rd, eO 3 [.int (nI k), .int 0, .int (-1), .ref rh, .ref rt, .int 0, .int 0, .int 0, .int 0, .int 0, .int 0]), (rt, eI (ty 1) 900 (upd tp k (vp_nar .byte ((x >>> (24 &&& 31))).toInt8.toInt32)))]) C hP hD hS 1 rfl k rfl (by omega) (by decide) rfl d_X3_putOnTape_29 (fun H locs hP hD hS => ?_)
  refine lv_aload_n hx hb d_X3_putOnTape_30 rfl (lv_at hl 1 rfl) ?_
  refine lv_dup hx hb d_X3_putOnTape_31 rfl ?_
  refine r_get (v := .int (nI k)) C hP 0 rfl rfl lay_X3 0 (by decide) k_227 rfl d_X3_putOnTape_32 ?_
  refine lv_iconst (v := 1) hx hb d_X3_putOnTape_35 (by decide) ?_
  refine r_iadd (z := (nI (k + 1))) C d_X3_putOnTape_36 (a_add k 1 (k + 1) rfl rfl (by omega)) ?_
  refine r_put (w := [(rd, eO 3 [.int (nI (k + 1)), .int 0, .int (-1), .ref rh, .ref rt, .int 0, .int 0, .int 0, .int 0, .int 0, .int 0]), (rt, eI (ty 1) 900 (upd tp k (vp_nar .byte ((x >>> (24 &&& 31))).toInt8.toInt32)))]) C hP hD hS 0 rfl rfl lay_X3 tok_X3 nmo_X3 0 (by decide) k_227 rfl rfl rfl (nle rfl) rfl d_X3_putOnTape_37 (fun H locs hP hD hS => ?_)
  refine lv_iinc (v := 16) (lv' := [(2, .int 16), (0, .ref rd), (1, .int x)]) (k := 0) hx hb d_X3_putOnTape_40 hl rfl (by decide) (by decide) rfl (fun ls hl => ?_)
  refine lv_goto (tgt := 3) hx hb d_X3_putOnTape_43 (by decide) ?_
  refine lv_iload_n hx hb d_X3_putOnTape_3 rfl (lv_at hl 0 rfl) ?_
  refine b_if_ltF C 46 d_X3_putOnTape_4 (by decide) (by decide) ?_
  refine lv_aload_n hx hb d_X3_putOnTape_7 rfl (lv_at hl 1 rfl) ?_
  refine r_get (v := .int (nI (k + 1))) C hP 0 rfl rfl lay_X3 0 (by decide) k_227 rfl d_X3_putOnTape_8 ?_
  refine lv_sipush (v := 900) hx hb d_X3_putOnTape_11 (by decide) ?_
  refine b_icmp_geF C 40 d_X3_putOnTape_14 (by decide) (n_nle 900 (k + 1) rfl rfl (by omega) (by omega)) ?_
  refine lv_aload_n hx hb d_X3_putOnTape_17 rfl (lv_at hl 1 rfl) ?_
  refine r_get (v := .ref rt) C hP 0 rfl rfl lay_X3 4 (by decide) k_234 rfl d_X3_putOnTape_18 ?_
  refine lv_aload_n hx hb d_X3_putOnTape_21 rfl (lv_at hl 1 rfl) ?_
  refine r_get (v := .int (nI (k + 1))) C hP 0 rfl rfl lay_X3 0 (by decide) k_227 rfl d_X3_putOnTape_22 ?_
  refine lv_iload_n hx hb d_X3_putOnTape_25 rfl (lv_at hl 2 rfl) ?_
  refine lv_iload_n hx hb d_X3_putOnTape_26 rfl (lv_at hl 0 rfl) ?_
  refine r_ishr (z := (x >>> (16 &&& 31))) C d_X3_putOnTape_27 rfl ?_
  refine lv_i2b (v := ((x >>> (16 &&& 31))).toInt8.toInt32) hx hb d_X3_putOnTape_28 rfl ?_
  refine r_bast (w := [(rd, eO 3 [.int (nI (k + 1)), .int 0, .int (-1), .ref rh, .ref rt, .int 0, .int 0, .int 0, .int 0, .int 0, .int 0]), (rt, eI (ty 1) 900 (upd (upd tp k (vp_nar .byte ((x >>> (24 &&& 31))).toInt8.toInt32)) (k + 1) (vp_nar .byte ((x >>> (16 &&& 31))).toInt8.toInt32)))]) C hP hD hS 1 rfl (k + 1) rfl (by omega) (by decide) rfl d_X3_putOnTape_29 (fun H locs hP hD hS => ?_)
  refine lv_aload_n hx hb d_X3_putOnTape_30 rfl (lv_at hl 1 rfl) ?_
  refine lv_dup hx hb d_X3_putOnTape_31 rfl ?_
  refine r_get (v := .int (nI (k + 1))) C hP 0 rfl rfl lay_X3 0 (by decide) k_227 rfl d_X3_putOnTape_32 ?_
  refine lv_iconst (v := 1) hx hb d_X3_putOnTape_35 (by decide) ?_
  refine r_iadd (z := (nI ((k + 1) + 1))) C d_X3_putOnTape_36 (a_add (k + 1) 1 ((k + 1) + 1) rfl rfl (by omega)) ?_
  refine r_put (w := [(rd, eO 3 [.int (nI ((k + 1) + 1)), .int 0, .int (-1), .ref rh, .ref rt, .int 0, .int 0, .int 0, .int 0, .int 0, .int 0]), (rt, eI (ty 1) 900 (upd (upd tp k (vp_nar .byte ((x >>> (24 &&& 31))).toInt8.toInt32)) (k + 1) (vp_nar .byte ((x >>> (16 &&& 31))).toInt8.toInt32)))]) C hP hD hS 0 rfl rfl lay_X3 tok_X3 nmo_X3 0 (by decide) k_227 rfl rfl rfl (nle rfl) rfl d_X3_putOnTape_37 (fun H locs hP hD hS => ?_)
  refine lv_iinc (v := 8) (lv' := [(2, .int 8), (0, .ref rd), (1, .int x)]) (k := 0) hx hb d_X3_putOnTape_40 hl rfl (by decide) (by decide) rfl (fun ls hl => ?_)
  refine lv_goto (tgt := 3) hx hb d_X3_putOnTape_43 (by decide) ?_
  refine lv_iload_n hx hb d_X3_putOnTape_3 rfl (lv_at hl 0 rfl) ?_
  refine b_if_ltF C 46 d_X3_putOnTape_4 (by decide) (by decide) ?_
  refine lv_aload_n hx hb d_X3_putOnTape_7 rfl (lv_at hl 1 rfl) ?_
  refine r_get (v := .int (nI ((k + 1) + 1))) C hP 0 rfl rfl lay_X3 0 (by decide) k_227 rfl d_X3_putOnTape_8 ?_
  refine lv_sipush (v := 900) hx hb d_X3_putOnTape_11 (by decide) ?_
  refine b_icmp_geF C 40 d_X3_putOnTape_14 (by decide) (n_nle 900 ((k + 1) + 1) rfl rfl (by omega) (by omega)) ?_
  refine lv_aload_n hx hb d_X3_putOnTape_17 rfl (lv_at hl 1 rfl) ?_
  refine r_get (v := .ref rt) C hP 0 rfl rfl lay_X3 4 (by decide) k_234 rfl d_X3_putOnTape_18 ?_
  refine lv_aload_n hx hb d_X3_putOnTape_21 rfl (lv_at hl 1 rfl) ?_
  refine r_get (v := .int (nI ((k + 1) + 1))) C hP 0 rfl rfl lay_X3 0 (by decide) k_227 rfl d_X3_putOnTape_22 ?_
  refine lv_iload_n hx hb d_X3_putOnTape_25 rfl (lv_at hl 2 rfl) ?_
  refine lv_iload_n hx hb d_X3_putOnTape_26 rfl (lv_at hl 0 rfl) ?_
  refine r_ishr (z := (x >>> (8 &&& 31))) C d_X3_putOnTape_27 rfl ?_
  refine lv_i2b (v := ((x >>> (8 &&& 31))).toInt8.toInt32) hx hb d_X3_putOnTape_28 rfl ?_
  refine r_bast (w := [(rd, eO 3 [.int (nI ((k + 1) + 1)), .int 0, .int (-1), .ref rh, .ref rt, .int 0, .int 0, .int 0, .int 0, .int 0, .int 0]), (rt, eI (ty 1) 900 (upd (upd (upd tp k (vp_nar .byte ((x >>> (24 &&& 31))).toInt8.toInt32)) (k + 1) (vp_nar .byte ((x >>> (16 &&& 31))).toInt8.toInt32)) ((k + 1) + 1) (vp_nar .byte ((x >>> (8 &&& 31))).toInt8.toInt32)))]) C hP hD hS 1 rfl ((k + 1) + 1) rfl (by omega) (by decide) rfl d_X3_putOnTape_29 (fun H locs hP hD hS => ?_)
  refine lv_aload_n hx hb d_X3_putOnTape_30 rfl (lv_at hl 1 rfl) ?_
  refine lv_dup hx hb d_X3_putOnTape_31 rfl ?_
  refine r_get (v := .int (nI ((k + 1) + 1))) C hP 0 rfl rfl lay_X3 0 (by decide) k_227 rfl d_X3_putOnTape_32 ?_
  refine lv_iconst (v := 1) hx hb d_X3_putOnTape_35 (by decide) ?_
  refine r_iadd (z := (nI (((k + 1) + 1) + 1))) C d_X3_putOnTape_36 (a_add ((k + 1) + 1) 1 (((k + 1) + 1) + 1) rfl rfl (by omega)) ?_
  refine r_put (w := [(rd, eO 3 [.int (nI (((k + 1) + 1) + 1)), .int 0, .int (-1), .ref rh, .ref rt, .int 0, .int 0, .int 0, .int 0, .int 0, .int 0]), (rt, eI (ty 1) 900 (upd (upd (upd tp k (vp_nar .byte ((x >>> (24 &&& 31))).toInt8.toInt32)) (k + 1) (vp_nar .byte ((x >>> (16 &&& 31))).toInt8.toInt32)) ((k + 1) + 1) (vp_nar .byte ((x >>> (8 &&& 31))).toInt8.toInt32)))]) C hP hD hS 0 rfl rfl lay_X3 tok_X3 nmo_X3 0 (by decide) k_227 rfl rfl rfl (nle rfl) rfl d_X3_putOnTape_37 (fun H locs hP hD hS => ?_)
  refine lv_iinc (v := 0) (lv' := [(2, .int 0), (0, .ref rd), (1, .int x)]) (k := 0) hx hb d_X3_putOnTape_40 hl rfl (by decide) (by decide) rfl (fun ls hl => ?_)
  refine lv_goto (tgt := 3) hx hb d_X3_putOnTape_43 (by decide) ?_
  refine lv_iload_n hx hb d_X3_putOnTape_3 rfl (lv_at hl 0 rfl) ?_
  refine b_if_ltF C 46 d_X3_putOnTape_4 (by decide) (by decide) ?_
  refine lv_aload_n hx hb d_X3_putOnTape_7 rfl (lv_at hl 1 rfl) ?_
  refine r_get (v := .int (nI (((k + 1) + 1) + 1))) C hP 0 rfl rfl lay_X3 0 (by decide) k_227 rfl d_X3_putOnTape_8 ?_
  refine lv_sipush (v := 900) hx hb d_X3_putOnTape_11 (by decide) ?_
  refine b_icmp_geF C 40 d_X3_putOnTape_14 (by decide) (n_nle 900 (((k + 1) + 1) + 1) rfl rfl (by omega) (by omega)) ?_
  refine lv_aload_n hx hb d_X3_putOnTape_17 rfl (lv_at hl 1 rfl) ?_
  refine r_get (v := .ref rt) C hP 0 rfl rfl lay_X3 4 (by decide) k_234 rfl d_X3_putOnTape_18 ?_
  refine lv_aload_n hx hb d_X3_putOnTape_21 rfl (lv_at hl 1 rfl) ?_
  refine r_get (v := .int (nI (((k + 1) + 1) + 1))) C hP 0 rfl rfl lay_X3 0 (by decide) k_227 rfl d_X3_putOnTape_22 ?_
  refine lv_iload_n hx hb d_X3_putOnTape_25 rfl (lv_at hl 2 rfl) ?_
  refine lv_iload_n hx hb d_X3_putOnTape_26 rfl (lv_at hl 0 rfl) ?_
  refine r_ishr (z := (x >>> (0 &&& 31))) C d_X3_putOnTape_27 rfl ?_
  refine lv_i2b (v := ((x >>> (0 &&& 31))).toInt8.toInt32) hx hb d_X3_putOnTape_28 rfl ?_
  refine r_bast (w := [(rd, eO 3 [.int (nI (((k + 1) + 1) + 1)), .int 0, .int (-1), .ref rh, .ref rt, .int 0, .int 0, .int 0, .int 0, .int 0, .int 0]), (rt, eI (ty 1) 900 (upd (upd (upd (upd tp k (vp_nar .byte ((x >>> (24 &&& 31))).toInt8.toInt32)) (k + 1) (vp_nar .byte ((x >>> (16 &&& 31))).toInt8.toInt32)) ((k + 1) + 1) (vp_nar .byte ((x >>> (8 &&& 31))).toInt8.toInt32)) (((k + 1) + 1) + 1) (vp_nar .byte ((x >>> (0 &&& 31))).toInt8.toInt32)))]) C hP hD hS 1 rfl (((k + 1) + 1) + 1) rfl (by omega) (by decide) rfl d_X3_putOnTape_29 (fun H locs hP hD hS => ?_)
  refine lv_aload_n hx hb d_X3_putOnTape_30 rfl (lv_at hl 1 rfl) ?_
  refine lv_dup hx hb d_X3_putOnTape_31 rfl ?_
  refine r_get (v := .int (nI (((k + 1) + 1) + 1))) C hP 0 rfl rfl lay_X3 0 (by decide) k_227 rfl d_X3_putOnTape_32 ?_
  refine lv_iconst (v := 1) hx hb d_X3_putOnTape_35 (by decide) ?_
  refine r_iadd (z := (nI ((((k + 1) + 1) + 1) + 1))) C d_X3_putOnTape_36 (a_add (((k + 1) + 1) + 1) 1 ((((k + 1) + 1) + 1) + 1) rfl rfl (by omega)) ?_
  refine r_put (w := [(rd, eO 3 [.int (nI ((((k + 1) + 1) + 1) + 1)), .int 0, .int (-1), .ref rh, .ref rt, .int 0, .int 0, .int 0, .int 0, .int 0, .int 0]), (rt, eI (ty 1) 900 (upd (upd (upd (upd tp k (vp_nar .byte ((x >>> (24 &&& 31))).toInt8.toInt32)) (k + 1) (vp_nar .byte ((x >>> (16 &&& 31))).toInt8.toInt32)) ((k + 1) + 1) (vp_nar .byte ((x >>> (8 &&& 31))).toInt8.toInt32)) (((k + 1) + 1) + 1) (vp_nar .byte ((x >>> (0 &&& 31))).toInt8.toInt32)))]) C hP hD hS 0 rfl rfl lay_X3 tok_X3 nmo_X3 0 (by decide) k_227 rfl rfl rfl (nle rfl) rfl d_X3_putOnTape_37 (fun H locs hP hD hS => ?_)
  refine lv_iinc (v := (-8)) (lv' := [(2, .int (-8)), (0, .ref rd), (1, .int x)]) (k := 0) hx hb d_X3_putOnTape_40 hl rfl (by decide) (by decide) rfl (fun ls hl => ?_)
  refine lv_goto (tgt := 3) hx hb d_X3_putOnTape_43 (by decide) ?_
  refine lv_iload_n hx hb d_X3_putOnTape_3 rfl (lv_at hl 0 rfl) ?_
  refine b_if_ltT C 46 d_X3_putOnTape_4 (by decide) (by decide) ?_
  exact ret_V (w := [(rd, eO 3 [.int (nI ((((k + 1) + 1) + 1) + 1)), .int 0, .int (-1), .ref rh, .ref rt, .int 0, .int 0, .int 0, .int 0, .int 0, .int 0]), (rt, eI (ty 1) 900 (upd (upd (upd (upd tp k (vp_nar .byte ((x >>> (24 &&& 31))).toInt8.toInt32)) (k + 1) (vp_nar .byte ((x >>> (16 &&& 31))).toInt8.toInt32)) ((k + 1) + 1) (vp_nar .byte ((x >>> (8 &&& 31))).toInt8.toInt32)) (((k + 1) + 1) + 1) (vp_nar .byte ((x >>> (0 &&& 31))).toInt8.toInt32)))]) C hP hD hS [0, 1] rfl rfl ⟨(upd (upd (upd (upd tp k (vp_nar .byte ((x >>> (24 &&& 31))).toInt8.toInt32)) (k + 1) (vp_nar .byte ((x >>> (16 &&& 31))).toInt8.toInt32)) ((k + 1) + 1) (vp_nar .byte ((x >>> (8 &&& 31))).toInt8.toInt32)) (((k + 1) + 1) + 1) (vp_nar .byte ((x >>> (0 &&& 31))).toInt8.toInt32)), rfl⟩ (by decide) (by decide) d_X3_putOnTape_46
set_option maxHeartbeats 4000000 in
set_option maxRecDepth 100000 in
theorem c_feed (l : Launch) (D : va_G) (ty : Nat → ClassId) (h0 : Nat) (rd : Nat) (ho : Nat) (nw : Nat) (tr : Nat) (ts : Nat) (im : Nat) (rh : Nat) (rt : Nat) (x1 : Int32) (x2 : Int32) (x3 : Int32) (x4 : Int32) (x5 : Int32) : CC l D ty ⟨"PinchedBill", "feed", "(IIIII)I"⟩ prog_1_method_2_code 6 (some .int) 1 22 0 0 [.ref h0, .int x1, .int x2, .int x3, .int x4, .int x5] [(h0, eO 8 [.ref rd, .ref ho, .ref nw, .ref tr, .ref ts, .ref im, .null]), (rd, eO 3 [.int 0, .int 0, .int (-1), .ref rh, .ref rt, .int 0, .int 0, .int 0, .int 0, .int 0, .int 0]), (rt, eI (ty 1) 900 (fun _ => 0))] (QI D ty (fun (r : Int32) (w : va_W) => 20 = r ∧ w = [])) := by
  refine CC_of (by decide) ?_
  intro p e s m below meth c A C hP hD hS
  obtain ⟨⟨hx, hb, hml, hown, hts⟩, hr, hlocks, hnm, hK, hE, hA, hZ⟩ := id C
  refine startW [.ref h0, .int x1, .int x2, .int x3, .int x4, .int x5] 6 (nle rfl) (lv := [(0, .ref h0), (1, .int x1), (2, .int x2), (3, .int x3), (4, .int x4), (5, .int x5)]) rfl (fun ls hl => ?_)
  refine lv_aload_n hx hb d_X8_feed_0 rfl (lv_at hl 0 rfl) ?_
  refine r_get (v := .ref rd) C hP 0 rfl rfl lay_X8 0 (by decide) k_320 rfl d_X8_feed_1 ?_
  refine r_get (v := .int 0) C hP 1 rfl rfl lay_X3 0 (by decide) k_226 rfl d_X8_feed_4 ?_
  refine lv_bipush (v := 20) hx hb d_X8_feed_7 (by decide) ?_
  refine r_iadd (z := 20) C d_X8_feed_9 (by decide) ?_
  refine lv_sipush (v := 900) hx hb d_X8_feed_10 (by decide) ?_
  refine b_icmp_leT C 18 d_X8_feed_13 (by decide) (by decide) ?_
  refine lv_aload_n hx hb d_X8_feed_18 rfl (lv_at hl 0 rfl) ?_
  refine r_get (v := .ref rd) C hP 0 rfl rfl lay_X8 0 (by decide) k_320 rfl d_X8_feed_19 ?_
  refine lv_iload_n hx hb d_X8_feed_22 rfl (lv_at hl 1 rfl) ?_
  have ct_1 : Cut [(h0, eO 8 [.ref rd, .ref ho, .ref nw, .ref tr, .ref ts, .ref im, .null]), (rd, eO 3 [.int 0, .int 0, .int (-1), .ref rh, .ref rt, .int 0, .int 0, .int 0, .int 0, .int 0, .int 0]), (rt, eI (ty 1) 900 (fun _ => 0))] [(rd, eO 3 [.int 0, .int 0, .int (-1), .ref rh, .ref rt, .int 0, .int 0, .int 0, .int 0, .int 0, .int 0]), (rt, eI (ty 1) 900 (fun _ => 0))] [(h0, eO 8 [.ref rd, .ref ho, .ref nw, .ref tr, .ref ts, .ref im, .null])] [1, 2] [0] := ⟨rfl, rfl, rfl, rfl, by decide⟩
  refine cont_V C hP hD hS ct_1 (run_V (As := [.int x1]) (rest := []) C hP hD hS ct_1 (c_put l D ty rd rh rt 0 (fun _ => 0) x1 (by omega)) kV_PinchedBill_49 1 rfl rfl rfl rfl hl.1 rfl (nle rfl) d_X8_feed_23 ⟨by decide, by decide, by decide, by decide⟩) (fun w_5 H locs hw_3 hP hD hS => ?_)
  obtain ⟨tp9_2, rfl⟩ := hw_3
  have hP : va_P D vwCl [(h0, eO 8 [.ref rd, .ref ho, .ref nw, .ref tr, .ref ts, .ref im, .null]), (rd, eO 3 [.int 4, .int 0, .int (-1), .ref rh, .ref rt, .int 0, .int 0, .int 0, .int 0, .int 0, .int 0]), (rt, eI (ty 1) 900 tp9_2)] H := hP
  have hD : va_D A [(h0, eO 8 [.ref rd, .ref ho, .ref nw, .ref tr, .ref ts, .ref im, .null]), (rd, eO 3 [.int 4, .int 0, .int (-1), .ref rh, .ref rt, .int 0, .int 0, .int 0, .int 0, .int 0, .int 0]), (rt, eI (ty 1) 900 tp9_2)] := hD
  refine lv_aload_n hx hb d_X8_feed_26 rfl (lv_at hl 0 rfl) ?_
  refine r_get (v := .ref rd) C hP 0 rfl rfl lay_X8 0 (by decide) k_320 rfl d_X8_feed_27 ?_
  refine lv_iload_n hx hb d_X8_feed_30 rfl (lv_at hl 2 rfl) ?_
  have ct_6 : Cut [(h0, eO 8 [.ref rd, .ref ho, .ref nw, .ref tr, .ref ts, .ref im, .null]), (rd, eO 3 [.int 4, .int 0, .int (-1), .ref rh, .ref rt, .int 0, .int 0, .int 0, .int 0, .int 0, .int 0]), (rt, eI (ty 1) 900 tp9_2)] [(rd, eO 3 [.int 4, .int 0, .int (-1), .ref rh, .ref rt, .int 0, .int 0, .int 0, .int 0, .int 0, .int 0]), (rt, eI (ty 1) 900 tp9_2)] [(h0, eO 8 [.ref rd, .ref ho, .ref nw, .ref tr, .ref ts, .ref im, .null])] [1, 2] [0] := ⟨rfl, rfl, rfl, rfl, by decide⟩
  refine cont_V C hP hD hS ct_6 (run_V (As := [.int x2]) (rest := []) C hP hD hS ct_6 (c_put l D ty rd rh rt 4 tp9_2 x2 (by omega)) kV_PinchedBill_49 1 rfl rfl rfl rfl hl.1 rfl (nle rfl) d_X8_feed_31 ⟨by decide, by decide, by decide, by decide⟩) (fun w_10 H locs hw_8 hP hD hS => ?_)
  obtain ⟨tp9_7, rfl⟩ := hw_8
  have hP : va_P D vwCl [(h0, eO 8 [.ref rd, .ref ho, .ref nw, .ref tr, .ref ts, .ref im, .null]), (rd, eO 3 [.int 8, .int 0, .int (-1), .ref rh, .ref rt, .int 0, .int 0, .int 0, .int 0, .int 0, .int 0]), (rt, eI (ty 1) 900 tp9_7)] H := hP
  have hD : va_D A [(h0, eO 8 [.ref rd, .ref ho, .ref nw, .ref tr, .ref ts, .ref im, .null]), (rd, eO 3 [.int 8, .int 0, .int (-1), .ref rh, .ref rt, .int 0, .int 0, .int 0, .int 0, .int 0, .int 0]), (rt, eI (ty 1) 900 tp9_7)] := hD
  refine lv_aload_n hx hb d_X8_feed_34 rfl (lv_at hl 0 rfl) ?_
  refine r_get (v := .ref rd) C hP 0 rfl rfl lay_X8 0 (by decide) k_320 rfl d_X8_feed_35 ?_
  refine lv_iload_n hx hb d_X8_feed_38 rfl (lv_at hl 3 rfl) ?_
  have ct_11 : Cut [(h0, eO 8 [.ref rd, .ref ho, .ref nw, .ref tr, .ref ts, .ref im, .null]), (rd, eO 3 [.int 8, .int 0, .int (-1), .ref rh, .ref rt, .int 0, .int 0, .int 0, .int 0, .int 0, .int 0]), (rt, eI (ty 1) 900 tp9_7)] [(rd, eO 3 [.int 8, .int 0, .int (-1), .ref rh, .ref rt, .int 0, .int 0, .int 0, .int 0, .int 0, .int 0]), (rt, eI (ty 1) 900 tp9_7)] [(h0, eO 8 [.ref rd, .ref ho, .ref nw, .ref tr, .ref ts, .ref im, .null])] [1, 2] [0] := ⟨rfl, rfl, rfl, rfl, by decide⟩
  refine cont_V C hP hD hS ct_11 (run_V (As := [.int x3]) (rest := []) C hP hD hS ct_11 (c_put l D ty rd rh rt 8 tp9_7 x3 (by omega)) kV_PinchedBill_49 1 rfl rfl rfl rfl hl.1 rfl (nle rfl) d_X8_feed_39 ⟨by decide, by decide, by decide, by decide⟩) (fun w_15 H locs hw_13 hP hD hS => ?_)
  obtain ⟨tp9_12, rfl⟩ := hw_13
  have hP : va_P D vwCl [(h0, eO 8 [.ref rd, .ref ho, .ref nw, .ref tr, .ref ts, .ref im, .null]), (rd, eO 3 [.int 12, .int 0, .int (-1), .ref rh, .ref rt, .int 0, .int 0, .int 0, .int 0, .int 0, .int 0]), (rt, eI (ty 1) 900 tp9_12)] H := hP
  have hD : va_D A [(h0, eO 8 [.ref rd, .ref ho, .ref nw, .ref tr, .ref ts, .ref im, .null]), (rd, eO 3 [.int 12, .int 0, .int (-1), .ref rh, .ref rt, .int 0, .int 0, .int 0, .int 0, .int 0, .int 0]), (rt, eI (ty 1) 900 tp9_12)] := hD
  refine lv_aload_n hx hb d_X8_feed_42 rfl (lv_at hl 0 rfl) ?_
  refine r_get (v := .ref rd) C hP 0 rfl rfl lay_X8 0 (by decide) k_320 rfl d_X8_feed_43 ?_
  refine lv_iload hx hb d_X8_feed_46 (lv_at hl 4 rfl) ?_
  have ct_16 : Cut [(h0, eO 8 [.ref rd, .ref ho, .ref nw, .ref tr, .ref ts, .ref im, .null]), (rd, eO 3 [.int 12, .int 0, .int (-1), .ref rh, .ref rt, .int 0, .int 0, .int 0, .int 0, .int 0, .int 0]), (rt, eI (ty 1) 900 tp9_12)] [(rd, eO 3 [.int 12, .int 0, .int (-1), .ref rh, .ref rt, .int 0, .int 0, .int 0, .int 0, .int 0, .int 0]), (rt, eI (ty 1) 900 tp9_12)] [(h0, eO 8 [.ref rd, .ref ho, .ref nw, .ref tr, .ref ts, .ref im, .null])] [1, 2] [0] := ⟨rfl, rfl, rfl, rfl, by decide⟩
  refine cont_V C hP hD hS ct_16 (run_V (As := [.int x4]) (rest := []) C hP hD hS ct_16 (c_put l D ty rd rh rt 12 tp9_12 x4 (by omega)) kV_PinchedBill_49 1 rfl rfl rfl rfl hl.1 rfl (nle rfl) d_X8_feed_48 ⟨by decide, by decide, by decide, by decide⟩) (fun w_20 H locs hw_18 hP hD hS => ?_)
  obtain ⟨tp9_17, rfl⟩ := hw_18
  have hP : va_P D vwCl [(h0, eO 8 [.ref rd, .ref ho, .ref nw, .ref tr, .ref ts, .ref im, .null]), (rd, eO 3 [.int 16, .int 0, .int (-1), .ref rh, .ref rt, .int 0, .int 0, .int 0, .int 0, .int 0, .int 0]), (rt, eI (ty 1) 900 tp9_17)] H := hP
  have hD : va_D A [(h0, eO 8 [.ref rd, .ref ho, .ref nw, .ref tr, .ref ts, .ref im, .null]), (rd, eO 3 [.int 16, .int 0, .int (-1), .ref rh, .ref rt, .int 0, .int 0, .int 0, .int 0, .int 0, .int 0]), (rt, eI (ty 1) 900 tp9_17)] := hD
  refine lv_aload_n hx hb d_X8_feed_51 rfl (lv_at hl 0 rfl) ?_
  refine r_get (v := .ref rd) C hP 0 rfl rfl lay_X8 0 (by decide) k_320 rfl d_X8_feed_52 ?_
  refine lv_iload hx hb d_X8_feed_55 (lv_at hl 5 rfl) ?_
  have ct_21 : Cut [(h0, eO 8 [.ref rd, .ref ho, .ref nw, .ref tr, .ref ts, .ref im, .null]), (rd, eO 3 [.int 16, .int 0, .int (-1), .ref rh, .ref rt, .int 0, .int 0, .int 0, .int 0, .int 0, .int 0]), (rt, eI (ty 1) 900 tp9_17)] [(rd, eO 3 [.int 16, .int 0, .int (-1), .ref rh, .ref rt, .int 0, .int 0, .int 0, .int 0, .int 0, .int 0]), (rt, eI (ty 1) 900 tp9_17)] [(h0, eO 8 [.ref rd, .ref ho, .ref nw, .ref tr, .ref ts, .ref im, .null])] [1, 2] [0] := ⟨rfl, rfl, rfl, rfl, by decide⟩
  refine cont_V C hP hD hS ct_21 (run_V (As := [.int x5]) (rest := []) C hP hD hS ct_21 (c_put l D ty rd rh rt 16 tp9_17 x5 (by omega)) kV_PinchedBill_49 1 rfl rfl rfl rfl hl.1 rfl (nle rfl) d_X8_feed_57 ⟨by decide, by decide, by decide, by decide⟩) (fun w_25 H locs hw_23 hP hD hS => ?_)
  obtain ⟨tp9_22, rfl⟩ := hw_23
  have hP : va_P D vwCl [(h0, eO 8 [.ref rd, .ref ho, .ref nw, .ref tr, .ref ts, .ref im, .null]), (rd, eO 3 [.int 20, .int 0, .int (-1), .ref rh, .ref rt, .int 0, .int 0, .int 0, .int 0, .int 0, .int 0]), (rt, eI (ty 1) 900 tp9_22)] H := hP
  have hD : va_D A [(h0, eO 8 [.ref rd, .ref ho, .ref nw, .ref tr, .ref ts, .ref im, .null]), (rd, eO 3 [.int 20, .int 0, .int (-1), .ref rh, .ref rt, .int 0, .int 0, .int 0, .int 0, .int 0, .int 0]), (rt, eI (ty 1) 900 tp9_22)] := hD
  refine lv_aload_n hx hb d_X8_feed_60 rfl (lv_at hl 0 rfl) ?_
  refine r_get (v := .ref rd) C hP 0 rfl rfl lay_X8 0 (by decide) k_320 rfl d_X8_feed_61 ?_
  refine r_get (v := .int 20) C hP 1 rfl rfl lay_X3 0 (by decide) k_226 rfl d_X8_feed_64 ?_
  exact ret_I (w := []) C hP hD hS [] rfl rfl ⟨rfl, rfl⟩ (by decide) (by decide) d_X8_feed_67
set_option maxHeartbeats 4000000 in
set_option maxRecDepth 100000 in
theorem c_fault (l : Launch) (D : va_G) (ty : Nat → ClassId) (h0 : Nat) (rd : Nat) (ho : Nat) (nw : Nat) (tr : Nat) (ts : Nat) (im : Nat) (rh : Nat) (rt : Nat) (wh : Int32) : CC l D ty ⟨"PinchedBill", "fault", "(I)I"⟩ prog_1_method_4_code 2 (some .int) 0 0 0 0 [.ref h0, .int wh] [(h0, eO 8 [.ref rd, .ref ho, .ref nw, .ref tr, .ref ts, .ref im, .null]), (rd, eO 3 [.int 0, .int 0, .int (-1), .ref rh, .ref rt, .int 0, .int 0, .int 0, .int 0, .int 0, .int 0])] (QI D ty (fun (r : Int32) (w : va_W) => (fF wh) = r ∧ w = [])) := by
  refine CC_of (by decide) ?_
  intro p e s m below meth c A C hP hD hS
  obtain ⟨⟨hx, hb, hml, hown, hts⟩, hr, hlocks, hnm, hK, hE, hA, hZ⟩ := id C
  refine startW [.ref h0, .int wh] 2 (nle rfl) (lv := [(0, .ref h0), (1, .int wh)]) rfl (fun ls hl => ?_)
  refine lv_iload_n hx hb d_X8_fault_0 rfl (lv_at hl 1 rfl) ?_
  refine lv_if_ne (tgt := 12) hx hb d_X8_fault_1 (by decide) (fun hc_1 => ?_) (fun hc_1 => ?_)
  · refine lv_iload_n hx hb d_X8_fault_12 rfl (lv_at hl 1 rfl) ?_
    refine lv_iconst (v := 1) hx hb d_X8_fault_13 (by decide) ?_
    refine lv_icmp_ne (tgt := 27) hx hb d_X8_fault_14 (by decide) (fun hc_2 => ?_) (fun hc_2 => ?_)
    · refine lv_iconst (v := (-1)) hx hb d_X8_fault_27 (by decide) ?_
      exact ret_I (w := []) C hP hD hS [] rfl rfl ⟨(Eq.symm (by unfold fF; simp [hc_1, hc_2])), rfl⟩ (by decide) (by decide) d_X8_fault_28
    · refine lv_aload_n hx hb d_X8_fault_17 rfl (lv_at hl 0 rfl) ?_
      refine r_get (v := .ref rd) C hP 0 rfl rfl lay_X8 0 (by decide) k_320 rfl d_X8_fault_18 ?_
      refine r_get (v := .int (-1)) C hP 1 rfl rfl lay_X3 2 (by decide) k_231 rfl d_X8_fault_21 ?_
      refine lv_goto (tgt := 28) hx hb d_X8_fault_24 (by decide) ?_
      exact ret_I (w := []) C hP hD hS [] rfl rfl ⟨(Eq.symm (by unfold fF; simp [hc_1, hc_2])), rfl⟩ (by decide) (by decide) d_X8_fault_28
  · refine lv_aload_n hx hb d_X8_fault_4 rfl (lv_at hl 0 rfl) ?_
    refine r_get (v := .ref rd) C hP 0 rfl rfl lay_X8 0 (by decide) k_320 rfl d_X8_fault_5 ?_
    refine r_get (v := .int 0) C hP 1 rfl rfl lay_X3 1 (by decide) k_229 rfl d_X8_fault_8 ?_
    exact ret_I (w := []) C hP hD hS [] rfl rfl ⟨(Eq.symm (by unfold fF; simp [hc_1])), rfl⟩ (by decide) (by decide) d_X8_fault_11
set_option maxHeartbeats 4000000 in
set_option maxRecDepth 100000 in
theorem c_bill (l : Launch) (D : va_G) (ty : Nat → ClassId) (h0 : Nat) (rd : Nat) (ho : Nat) (nw : Nat) (tr : Nat) (ts : Nat) (im : Nat) (n0 : Nat) (n1 : Nat) (n2 : Nat) (n3 : Nat) : CC l D ty ⟨"PinchedBill", "bill", "()I"⟩ prog_1_method_6_code 1 (some .int) 0 0 0 0 [.ref h0] [(h0, eO 8 [.ref rd, .ref ho, .ref nw, .ref tr, .ref ts, .ref im, .null]), (nw, eO 5 [.ref n0, .int 0, .int 0, .ref n1, .ref n2, .ref n3]), (n0, eO 7 [.int 0, .int (-1)])] (QI D ty (fun (r : Int32) (w : va_W) => 0 = r ∧ w = [])) := by
  refine CC_of (by decide) ?_
  intro p e s m below meth c A C hP hD hS
  obtain ⟨⟨hx, hb, hml, hown, hts⟩, hr, hlocks, hnm, hK, hE, hA, hZ⟩ := id C
  refine startW [.ref h0] 1 (nle rfl) (lv := [(0, .ref h0)]) rfl (fun ls hl => ?_)
  refine lv_aload_n hx hb d_X8_bill_0 rfl (lv_at hl 0 rfl) ?_
  refine r_get (v := .ref nw) C hP 0 rfl rfl lay_X8 2 (by decide) k_322 rfl d_X8_bill_1 ?_
  refine r_get (v := .ref n0) C hP 1 rfl rfl lay_X5 0 (by decide) k_295 rfl d_X8_bill_4 ?_
  refine r_get (v := .int 0) C hP 2 rfl rfl lay_X7 0 (by decide) k_282 rfl d_X8_bill_7 ?_
  exact ret_I (w := []) C hP hD hS [] rfl rfl ⟨rfl, rfl⟩ (by decide) (by decide) d_X8_bill_10
set_option maxHeartbeats 4000000 in
set_option maxRecDepth 100000 in
theorem c_spoke (l : Launch) (D : va_G) (ty : Nat → ClassId) (h0 : Nat) (rd : Nat) (ho : Nat) (nw : Nat) (tr : Nat) (ts : Nat) (im : Nat) (n0 : Nat) (n1 : Nat) (n2 : Nat) (n3 : Nat) : CC l D ty ⟨"PinchedBill", "spoke", "()I"⟩ prog_1_method_7_code 1 (some .int) 0 0 0 0 [.ref h0] [(h0, eO 8 [.ref rd, .ref ho, .ref nw, .ref tr, .ref ts, .ref im, .null]), (nw, eO 5 [.ref n0, .int 0, .int 0, .ref n1, .ref n2, .ref n3]), (n0, eO 7 [.int 0, .int (-1)])] (QI D ty (fun (r : Int32) (w : va_W) => (-1) = r ∧ w = [])) := by
  refine CC_of (by decide) ?_
  intro p e s m below meth c A C hP hD hS
  obtain ⟨⟨hx, hb, hml, hown, hts⟩, hr, hlocks, hnm, hK, hE, hA, hZ⟩ := id C
  refine startW [.ref h0] 1 (nle rfl) (lv := [(0, .ref h0)]) rfl (fun ls hl => ?_)
  refine lv_aload_n hx hb d_X8_spoke_0 rfl (lv_at hl 0 rfl) ?_
  refine r_get (v := .ref nw) C hP 0 rfl rfl lay_X8 2 (by decide) k_322 rfl d_X8_spoke_1 ?_
  refine r_get (v := .ref n0) C hP 1 rfl rfl lay_X5 0 (by decide) k_295 rfl d_X8_spoke_4 ?_
  refine r_get (v := .int (-1)) C hP 2 rfl rfl lay_X7 1 (by decide) k_287 rfl d_X8_spoke_7 ?_
  exact ret_I (w := []) C hP hD hS [] rfl rfl ⟨rfl, rfl⟩ (by decide) (by decide) d_X8_spoke_10
set_option maxHeartbeats 4000000 in
set_option maxRecDepth 100000 in
theorem c_next (l : Launch) (D : va_G) (ty : Nat → ClassId) (h0 : Nat) (rd : Nat) (ho : Nat) (nw : Nat) (tr : Nat) (ts : Nat) (im : Nat) (g1 : Nat) (g2 : Nat) (g3 : Nat) (n0 : Nat) (n1 : Nat) (n2 : Nat) (n3 : Nat) : CC l D ty ⟨"PinchedBill", "next", "()I"⟩ prog_1_method_8_code 1 (some .int) 5 94 15 22363 [.ref h0] [(h0, eO 8 [.ref rd, .ref ho, .ref nw, .ref tr, .ref ts, .ref im, .null]), (ho, eO 0 [.int 0, .int 1, .int 0, .int 0, .int 0, .int 0, .int 0, .int 0, .int 0, .int 0, .ref g1, .ref g2, .ref g3]), (nw, eO 5 [.ref n0, .int 0, .int 0, .ref n1, .ref n2, .ref n3]), (n0, eO 7 [.int 0, .int (-1)])] (QI D ty (fun (r : Int32) (w : va_W) => (-1) = r ∧ w = [])) := by
  refine CC_of (by decide) ?_
  intro p e s m below meth c A C hP hD hS
  obtain ⟨⟨hx, hb, hml, hown, hts⟩, hr, hlocks, hnm, hK, hE, hA, hZ⟩ := id C
  refine startW [.ref h0] 1 (nle rfl) (lv := [(0, .ref h0)]) rfl (fun ls hl => ?_)
  refine lv_aload_n hx hb d_X8_next_0 rfl (lv_at hl 0 rfl) ?_
  have ct_1 : Cut [(h0, eO 8 [.ref rd, .ref ho, .ref nw, .ref tr, .ref ts, .ref im, .null]), (ho, eO 0 [.int 0, .int 1, .int 0, .int 0, .int 0, .int 0, .int 0, .int 0, .int 0, .int 0, .ref g1, .ref g2, .ref g3]), (nw, eO 5 [.ref n0, .int 0, .int 0, .ref n1, .ref n2, .ref n3]), (n0, eO 7 [.int 0, .int (-1)])] [(h0, eO 8 [.ref rd, .ref ho, .ref nw, .ref tr, .ref ts, .ref im, .null]), (ho, eO 0 [.int 0, .int 1, .int 0, .int 0, .int 0, .int 0, .int 0, .int 0, .int 0, .int 0, .ref g1, .ref g2, .ref g3])] [(nw, eO 5 [.ref n0, .int 0, .int 0, .ref n1, .ref n2, .ref n3]), (n0, eO 7 [.int 0, .int (-1)])] [0, 1] [2, 3] := ⟨rfl, rfl, rfl, rfl, by decide⟩
  refine cont_R C hP hD hS ct_1 (run_V (As := []) (rest := []) C hP hD hS ct_1 (c_lawBook l D ty h0 rd ho nw tr ts im g1 g2 g3) kV_PinchedBill_95 0 rfl rfl rfl rfl hl.1 rfl (nle rfl) d_X8_next_1 ⟨by decide, by decide, by decide, by decide⟩) (fun r_18 w_19 H locs hw_17 hP hD hS => ?_)
  obtain ⟨rk_2, lw_3, l1_4, l2_5, l3_6, l4_7, w1_8, w2_9, m1_10, m2_11, m3_12, m4_13, m5_14, m6_15, m7_16, rfl, rfl⟩ := hw_17
  have hP : va_P D vwCl [(nw, eO 5 [.ref n0, .int 0, .int 0, .ref n1, .ref n2, .ref n3]), (n0, eO 7 [.int 0, .int (-1)]), (h0, eO 8 [.ref rd, .ref ho, .ref nw, .ref tr, .ref ts, .ref im, .ref rk_2]), (ho, eO 0 [.int 0, .int 1, .int 0, .int 0, .int 0, .int 0, .int 0, .int 0, .int 0, .int 0, .ref g1, .ref g2, .ref g3]), (rk_2, eO 4 [.ref lw_3, .ref w1_8, .ref w2_9, .int 0, .int 0, .int 0, .ref ho, .ref m1_10, .int 1, .ref m2_11, .ref m3_12, .int (-1), .ref m4_13, .int (-1), .ref m5_14, .ref m6_15, .ref m7_16, .int 0]), (lw_3, eO 2 [.ref ho, .ref l1_4, .ref l2_5, .ref l3_6, .ref l4_7]), (l1_4, eI (ty 0) 1000 (fun _ => 0)), (l2_5, eI (ty 0) 8000 (fun _ => 0)), (l3_6, eI (ty 0) 8 (fun _ => 0)), (l4_7, eI (ty 0) 64 (fun _ => 0)), (w1_8, eO 7 [.int 0, .int (-1)]), (w2_9, eO 7 [.int 0, .int (-1)]), (m1_10, eI (ty 0) 9000 (fun _ => 0)), (m2_11, eI (ty 0) 1000 (fun _ => 0)), (m3_12, eI (ty 0) 1000 (fun _ => 0)), (m4_13, eI (ty 0) 256 (fun _ => 0)), (m5_14, eI (ty 0) 8 (fun _ => 0)), (m6_15, eI (ty 0) 1000 (fun _ => 0)), (m7_16, eI (ty 0) 1000 (fun _ => 0))] H := hP
  have hD : va_D A [(nw, eO 5 [.ref n0, .int 0, .int 0, .ref n1, .ref n2, .ref n3]), (n0, eO 7 [.int 0, .int (-1)]), (h0, eO 8 [.ref rd, .ref ho, .ref nw, .ref tr, .ref ts, .ref im, .ref rk_2]), (ho, eO 0 [.int 0, .int 1, .int 0, .int 0, .int 0, .int 0, .int 0, .int 0, .int 0, .int 0, .ref g1, .ref g2, .ref g3]), (rk_2, eO 4 [.ref lw_3, .ref w1_8, .ref w2_9, .int 0, .int 0, .int 0, .ref ho, .ref m1_10, .int 1, .ref m2_11, .ref m3_12, .int (-1), .ref m4_13, .int (-1), .ref m5_14, .ref m6_15, .ref m7_16, .int 0]), (lw_3, eO 2 [.ref ho, .ref l1_4, .ref l2_5, .ref l3_6, .ref l4_7]), (l1_4, eI (ty 0) 1000 (fun _ => 0)), (l2_5, eI (ty 0) 8000 (fun _ => 0)), (l3_6, eI (ty 0) 8 (fun _ => 0)), (l4_7, eI (ty 0) 64 (fun _ => 0)), (w1_8, eO 7 [.int 0, .int (-1)]), (w2_9, eO 7 [.int 0, .int (-1)]), (m1_10, eI (ty 0) 9000 (fun _ => 0)), (m2_11, eI (ty 0) 1000 (fun _ => 0)), (m3_12, eI (ty 0) 1000 (fun _ => 0)), (m4_13, eI (ty 0) 256 (fun _ => 0)), (m5_14, eI (ty 0) 8 (fun _ => 0)), (m6_15, eI (ty 0) 1000 (fun _ => 0)), (m7_16, eI (ty 0) 1000 (fun _ => 0))] := hD
  refine lv_aload_n hx hb d_X8_next_4 rfl (lv_at hl 0 rfl) ?_
  refine r_get (v := .ref nw) C hP 2 rfl rfl lay_X8 2 (by decide) k_322 rfl d_X8_next_5 ?_
  refine r_get (v := .ref n0) C hP 0 rfl rfl lay_X5 0 (by decide) k_295 rfl d_X8_next_8 ?_
  refine r_get (v := .int 0) C hP 1 rfl rfl lay_X7 0 (by decide) k_282 rfl d_X8_next_11 ?_
  have ct_20 : Cut [(nw, eO 5 [.ref n0, .int 0, .int 0, .ref n1, .ref n2, .ref n3]), (n0, eO 7 [.int 0, .int (-1)]), (h0, eO 8 [.ref rd, .ref ho, .ref nw, .ref tr, .ref ts, .ref im, .ref rk_2]), (ho, eO 0 [.int 0, .int 1, .int 0, .int 0, .int 0, .int 0, .int 0, .int 0, .int 0, .int 0, .ref g1, .ref g2, .ref g3]), (rk_2, eO 4 [.ref lw_3, .ref w1_8, .ref w2_9, .int 0, .int 0, .int 0, .ref ho, .ref m1_10, .int 1, .ref m2_11, .ref m3_12, .int (-1), .ref m4_13, .int (-1), .ref m5_14, .ref m6_15, .ref m7_16, .int 0]), (lw_3, eO 2 [.ref ho, .ref l1_4, .ref l2_5, .ref l3_6, .ref l4_7]), (l1_4, eI (ty 0) 1000 (fun _ => 0)), (l2_5, eI (ty 0) 8000 (fun _ => 0)), (l3_6, eI (ty 0) 8 (fun _ => 0)), (l4_7, eI (ty 0) 64 (fun _ => 0)), (w1_8, eO 7 [.int 0, .int (-1)]), (w2_9, eO 7 [.int 0, .int (-1)]), (m1_10, eI (ty 0) 9000 (fun _ => 0)), (m2_11, eI (ty 0) 1000 (fun _ => 0)), (m3_12, eI (ty 0) 1000 (fun _ => 0)), (m4_13, eI (ty 0) 256 (fun _ => 0)), (m5_14, eI (ty 0) 8 (fun _ => 0)), (m6_15, eI (ty 0) 1000 (fun _ => 0)), (m7_16, eI (ty 0) 1000 (fun _ => 0))] [(lw_3, eO 2 [.ref ho, .ref l1_4, .ref l2_5, .ref l3_6, .ref l4_7]), (ho, eO 0 [.int 0, .int 1, .int 0, .int 0, .int 0, .int 0, .int 0, .int 0, .int 0, .int 0, .ref g1, .ref g2, .ref g3]), (l1_4, eI (ty 0) 1000 (fun _ => 0)), (l3_6, eI (ty 0) 8 (fun _ => 0))] [(nw, eO 5 [.ref n0, .int 0, .int 0, .ref n1, .ref n2, .ref n3]), (n0, eO 7 [.int 0, .int (-1)]), (h0, eO 8 [.ref rd, .ref ho, .ref nw, .ref tr, .ref ts, .ref im, .ref rk_2]), (rk_2, eO 4 [.ref lw_3, .ref w1_8, .ref w2_9, .int 0, .int 0, .int 0, .ref ho, .ref m1_10, .int 1, .ref m2_11, .ref m3_12, .int (-1), .ref m4_13, .int (-1), .ref m5_14, .ref m6_15, .ref m7_16, .int 0]), (l2_5, eI (ty 0) 8000 (fun _ => 0)), (l4_7, eI (ty 0) 64 (fun _ => 0)), (w1_8, eO 7 [.int 0, .int (-1)]), (w2_9, eO 7 [.int 0, .int (-1)]), (m1_10, eI (ty 0) 9000 (fun _ => 0)), (m2_11, eI (ty 0) 1000 (fun _ => 0)), (m3_12, eI (ty 0) 1000 (fun _ => 0)), (m4_13, eI (ty 0) 256 (fun _ => 0)), (m5_14, eI (ty 0) 8 (fun _ => 0)), (m6_15, eI (ty 0) 1000 (fun _ => 0)), (m7_16, eI (ty 0) 1000 (fun _ => 0))] [5, 3, 6, 8] [0, 1, 2, 4, 7, 9, 10, 11, 12, 13, 14, 15, 16, 17, 18] := ⟨rfl, rfl, rfl, rfl, by decide⟩
  refine cont_I C hP hD hS ct_20 (run_V (As := [.int 0]) (rest := []) C hP hD hS ct_20 (c_pin l D ty lw_3 ho l1_4 l2_5 l3_6 l4_7 g1 g2 g3 (fun _ => 0) (fun _ => 0) 0 (by omega) B01_0) kV_PinchedBill_108 5 rfl rfl rfl rfl hl.1 rfl (nle rfl) d_X8_next_14 ⟨by decide, by decide, by decide, by decide⟩) (fun r_24 w_25 H locs hw_23 hP hD hS => ?_)
  obtain ⟨f9_21, v9_22, hf9_26, rfl, rfl⟩ := hw_23
  have hP : va_P D vwCl [(nw, eO 5 [.ref n0, .int 0, .int 0, .ref n1, .ref n2, .ref n3]), (n0, eO 7 [.int 0, .int (-1)]), (h0, eO 8 [.ref rd, .ref ho, .ref nw, .ref tr, .ref ts, .ref im, .ref rk_2]), (rk_2, eO 4 [.ref lw_3, .ref w1_8, .ref w2_9, .int 0, .int 0, .int 0, .ref ho, .ref m1_10, .int 1, .ref m2_11, .ref m3_12, .int (-1), .ref m4_13, .int (-1), .ref m5_14, .ref m6_15, .ref m7_16, .int 0]), (l2_5, eI (ty 0) 8000 (fun _ => 0)), (l4_7, eI (ty 0) 64 (fun _ => 0)), (w1_8, eO 7 [.int 0, .int (-1)]), (w2_9, eO 7 [.int 0, .int (-1)]), (m1_10, eI (ty 0) 9000 (fun _ => 0)), (m2_11, eI (ty 0) 1000 (fun _ => 0)), (m3_12, eI (ty 0) 1000 (fun _ => 0)), (m4_13, eI (ty 0) 256 (fun _ => 0)), (m5_14, eI (ty 0) 8 (fun _ => 0)), (m6_15, eI (ty 0) 1000 (fun _ => 0)), (m7_16, eI (ty 0) 1000 (fun _ => 0)), (lw_3, eO 2 [.ref ho, .ref l1_4, .ref l2_5, .ref l3_6, .ref l4_7]), (ho, eO 0 [.int 0, .int 1, .int 0, .int 0, .int 0, .int 0, .int 0, .int 0, .int 0, .int 0, .ref g1, .ref g2, .ref g3]), (l1_4, eI (ty 0) 1000 f9_21), (l3_6, eI (ty 0) 8 v9_22)] H := hP
  have hD : va_D A [(nw, eO 5 [.ref n0, .int 0, .int 0, .ref n1, .ref n2, .ref n3]), (n0, eO 7 [.int 0, .int (-1)]), (h0, eO 8 [.ref rd, .ref ho, .ref nw, .ref tr, .ref ts, .ref im, .ref rk_2]), (rk_2, eO 4 [.ref lw_3, .ref w1_8, .ref w2_9, .int 0, .int 0, .int 0, .ref ho, .ref m1_10, .int 1, .ref m2_11, .ref m3_12, .int (-1), .ref m4_13, .int (-1), .ref m5_14, .ref m6_15, .ref m7_16, .int 0]), (l2_5, eI (ty 0) 8000 (fun _ => 0)), (l4_7, eI (ty 0) 64 (fun _ => 0)), (w1_8, eO 7 [.int 0, .int (-1)]), (w2_9, eO 7 [.int 0, .int (-1)]), (m1_10, eI (ty 0) 9000 (fun _ => 0)), (m2_11, eI (ty 0) 1000 (fun _ => 0)), (m3_12, eI (ty 0) 1000 (fun _ => 0)), (m4_13, eI (ty 0) 256 (fun _ => 0)), (m5_14, eI (ty 0) 8 (fun _ => 0)), (m6_15, eI (ty 0) 1000 (fun _ => 0)), (m7_16, eI (ty 0) 1000 (fun _ => 0)), (lw_3, eO 2 [.ref ho, .ref l1_4, .ref l2_5, .ref l3_6, .ref l4_7]), (ho, eO 0 [.int 0, .int 1, .int 0, .int 0, .int 0, .int 0, .int 0, .int 0, .int 0, .int 0, .ref g1, .ref g2, .ref g3]), (l1_4, eI (ty 0) 1000 f9_21), (l3_6, eI (ty 0) 8 v9_22)] := hD
  refine lv_aload_n hx hb d_X8_next_17 rfl (lv_at hl 0 rfl) ?_
  refine r_get (v := .ref nw) C hP 2 rfl rfl lay_X8 2 (by decide) k_322 rfl d_X8_next_18 ?_
  refine r_get (v := .int 0) C hP 0 rfl rfl lay_X5 1 (by decide) k_297 rfl d_X8_next_21 ?_
  refine r_iand (z := 0) C d_X8_next_24 (by decide) ?_
  refine lv_aload_n hx hb d_X8_next_25 rfl (lv_at hl 0 rfl) ?_
  refine r_get (v := .ref nw) C hP 2 rfl rfl lay_X8 2 (by decide) k_322 rfl d_X8_next_26 ?_
  refine r_get (v := .ref n0) C hP 0 rfl rfl lay_X5 0 (by decide) k_295 rfl d_X8_next_29 ?_
  refine r_get (v := .int (-1)) C hP 1 rfl rfl lay_X7 1 (by decide) k_287 rfl d_X8_next_32 ?_
  have ct_27 : Cut [(nw, eO 5 [.ref n0, .int 0, .int 0, .ref n1, .ref n2, .ref n3]), (n0, eO 7 [.int 0, .int (-1)]), (h0, eO 8 [.ref rd, .ref ho, .ref nw, .ref tr, .ref ts, .ref im, .ref rk_2]), (rk_2, eO 4 [.ref lw_3, .ref w1_8, .ref w2_9, .int 0, .int 0, .int 0, .ref ho, .ref m1_10, .int 1, .ref m2_11, .ref m3_12, .int (-1), .ref m4_13, .int (-1), .ref m5_14, .ref m6_15, .ref m7_16, .int 0]), (l2_5, eI (ty 0) 8000 (fun _ => 0)), (l4_7, eI (ty 0) 64 (fun _ => 0)), (w1_8, eO 7 [.int 0, .int (-1)]), (w2_9, eO 7 [.int 0, .int (-1)]), (m1_10, eI (ty 0) 9000 (fun _ => 0)), (m2_11, eI (ty 0) 1000 (fun _ => 0)), (m3_12, eI (ty 0) 1000 (fun _ => 0)), (m4_13, eI (ty 0) 256 (fun _ => 0)), (m5_14, eI (ty 0) 8 (fun _ => 0)), (m6_15, eI (ty 0) 1000 (fun _ => 0)), (m7_16, eI (ty 0) 1000 (fun _ => 0)), (lw_3, eO 2 [.ref ho, .ref l1_4, .ref l2_5, .ref l3_6, .ref l4_7]), (ho, eO 0 [.int 0, .int 1, .int 0, .int 0, .int 0, .int 0, .int 0, .int 0, .int 0, .int 0, .ref g1, .ref g2, .ref g3]), (l1_4, eI (ty 0) 1000 f9_21), (l3_6, eI (ty 0) 8 v9_22)] [] [(nw, eO 5 [.ref n0, .int 0, .int 0, .ref n1, .ref n2, .ref n3]), (n0, eO 7 [.int 0, .int (-1)]), (h0, eO 8 [.ref rd, .ref ho, .ref nw, .ref tr, .ref ts, .ref im, .ref rk_2]), (rk_2, eO 4 [.ref lw_3, .ref w1_8, .ref w2_9, .int 0, .int 0, .int 0, .ref ho, .ref m1_10, .int 1, .ref m2_11, .ref m3_12, .int (-1), .ref m4_13, .int (-1), .ref m5_14, .ref m6_15, .ref m7_16, .int 0]), (l2_5, eI (ty 0) 8000 (fun _ => 0)), (l4_7, eI (ty 0) 64 (fun _ => 0)), (w1_8, eO 7 [.int 0, .int (-1)]), (w2_9, eO 7 [.int 0, .int (-1)]), (m1_10, eI (ty 0) 9000 (fun _ => 0)), (m2_11, eI (ty 0) 1000 (fun _ => 0)), (m3_12, eI (ty 0) 1000 (fun _ => 0)), (m4_13, eI (ty 0) 256 (fun _ => 0)), (m5_14, eI (ty 0) 8 (fun _ => 0)), (m6_15, eI (ty 0) 1000 (fun _ => 0)), (m7_16, eI (ty 0) 1000 (fun _ => 0)), (lw_3, eO 2 [.ref ho, .ref l1_4, .ref l2_5, .ref l3_6, .ref l4_7]), (ho, eO 0 [.int 0, .int 1, .int 0, .int 0, .int 0, .int 0, .int 0, .int 0, .int 0, .int 0, .ref g1, .ref g2, .ref g3]), (l1_4, eI (ty 0) 1000 f9_21), (l3_6, eI (ty 0) 8 v9_22)] [] [0, 1, 2, 3, 4, 5, 6, 7, 8, 9, 10, 11, 12, 13, 14, 15, 16, 17, 18] := ⟨rfl, rfl, rfl, rfl, by decide⟩
  refine cont_I C hP hD hS ct_27 (run_S (As := [.int 0, .int (-1)]) (rest := []) C hP hD hS ct_27 (c_speak l D ty (-1)) kS_PinchedBill_116 rfl hl.1 rfl (nle rfl) d_X8_next_35 ⟨by decide, by decide, by decide, by decide⟩) (fun r_29 w_30 H locs hw_28 hP hD hS => ?_)
  obtain ⟨rfl, rfl⟩ := hw_28
  have hP : va_P D vwCl [(nw, eO 5 [.ref n0, .int 0, .int 0, .ref n1, .ref n2, .ref n3]), (n0, eO 7 [.int 0, .int (-1)]), (h0, eO 8 [.ref rd, .ref ho, .ref nw, .ref tr, .ref ts, .ref im, .ref rk_2]), (rk_2, eO 4 [.ref lw_3, .ref w1_8, .ref w2_9, .int 0, .int 0, .int 0, .ref ho, .ref m1_10, .int 1, .ref m2_11, .ref m3_12, .int (-1), .ref m4_13, .int (-1), .ref m5_14, .ref m6_15, .ref m7_16, .int 0]), (l2_5, eI (ty 0) 8000 (fun _ => 0)), (l4_7, eI (ty 0) 64 (fun _ => 0)), (w1_8, eO 7 [.int 0, .int (-1)]), (w2_9, eO 7 [.int 0, .int (-1)]), (m1_10, eI (ty 0) 9000 (fun _ => 0)), (m2_11, eI (ty 0) 1000 (fun _ => 0)), (m3_12, eI (ty 0) 1000 (fun _ => 0)), (m4_13, eI (ty 0) 256 (fun _ => 0)), (m5_14, eI (ty 0) 8 (fun _ => 0)), (m6_15, eI (ty 0) 1000 (fun _ => 0)), (m7_16, eI (ty 0) 1000 (fun _ => 0)), (lw_3, eO 2 [.ref ho, .ref l1_4, .ref l2_5, .ref l3_6, .ref l4_7]), (ho, eO 0 [.int 0, .int 1, .int 0, .int 0, .int 0, .int 0, .int 0, .int 0, .int 0, .int 0, .ref g1, .ref g2, .ref g3]), (l1_4, eI (ty 0) 1000 f9_21), (l3_6, eI (ty 0) 8 v9_22)] H := hP
  have hD : va_D A [(nw, eO 5 [.ref n0, .int 0, .int 0, .ref n1, .ref n2, .ref n3]), (n0, eO 7 [.int 0, .int (-1)]), (h0, eO 8 [.ref rd, .ref ho, .ref nw, .ref tr, .ref ts, .ref im, .ref rk_2]), (rk_2, eO 4 [.ref lw_3, .ref w1_8, .ref w2_9, .int 0, .int 0, .int 0, .ref ho, .ref m1_10, .int 1, .ref m2_11, .ref m3_12, .int (-1), .ref m4_13, .int (-1), .ref m5_14, .ref m6_15, .ref m7_16, .int 0]), (l2_5, eI (ty 0) 8000 (fun _ => 0)), (l4_7, eI (ty 0) 64 (fun _ => 0)), (w1_8, eO 7 [.int 0, .int (-1)]), (w2_9, eO 7 [.int 0, .int (-1)]), (m1_10, eI (ty 0) 9000 (fun _ => 0)), (m2_11, eI (ty 0) 1000 (fun _ => 0)), (m3_12, eI (ty 0) 1000 (fun _ => 0)), (m4_13, eI (ty 0) 256 (fun _ => 0)), (m5_14, eI (ty 0) 8 (fun _ => 0)), (m6_15, eI (ty 0) 1000 (fun _ => 0)), (m7_16, eI (ty 0) 1000 (fun _ => 0)), (lw_3, eO 2 [.ref ho, .ref l1_4, .ref l2_5, .ref l3_6, .ref l4_7]), (ho, eO 0 [.int 0, .int 1, .int 0, .int 0, .int 0, .int 0, .int 0, .int 0, .int 0, .int 0, .ref g1, .ref g2, .ref g3]), (l1_4, eI (ty 0) 1000 f9_21), (l3_6, eI (ty 0) 8 v9_22)] := hD
  exact ret_I (w := []) C hP hD hS [] rfl rfl ⟨rfl, rfl⟩ (by decide) (by decide) d_X8_next_38
set_option maxHeartbeats 4000000 in
set_option maxRecDepth 100000 in
theorem p_pinched (l : Launch) (D : va_G) (ty : Nat → ClassId) (h0 : Nat) (rd : Nat) (ho : Nat) (nw : Nat) (tr : Nat) (ts : Nat) (im : Nat) (g1 : Nat) (g2 : Nat) (g3 : Nat) (n0 : Nat) (n1 : Nat) (n2 : Nat) (n3 : Nat) (b : Int32) (hl9 : l.stackTraces = false) : CX l D ty ⟨"PinchedBill", "pinched", "(I)I"⟩ prog_1_method_9_code 2 (some .int) 7 103 16 22369 [.ref h0, .int b] [(h0, eO 8 [.ref rd, .ref ho, .ref nw, .ref tr, .ref ts, .ref im, .null]), (ho, eO 0 [.int 0, .int 1, .int 0, .int 0, .int 0, .int 0, .int 0, .int 0, .int 0, .int 0, .ref g1, .ref g2, .ref g3]), (nw, eO 5 [.ref n0, .int 0, .int 0, .ref n1, .ref n2, .ref n3]), (n0, eO 7 [.int 0, .int (-1)])] (QI D ty (fun (r : Int32) (w : va_W) => ((bB b = 1)) ∧ 0 = r ∧ w = [])) (fun E => E = "java/lang/IllegalArgumentException" ∧ ¬ ((bB b = 1))) := by
  refine CX_of (by decide) ?_
  intro p e s m below meth c A C hnt hP hD hS
  obtain ⟨⟨hx, hb, hml, hown, hts⟩, hr, hlocks, hnm, hK, hE, hA, hZ⟩ := id C
  refine startW [.ref h0, .int b] 2 (nle rfl) (lv := [(0, .ref h0), (1, .int b)]) rfl (fun ls hl => ?_)
  refine lv_aload_n hx hb d_X8_pinched_0 rfl (lv_at hl 0 rfl) ?_
  refine lv_iload_n hx hb d_X8_pinched_1 rfl (lv_at hl 1 rfl) ?_
  have ct_1 : Cut [(h0, eO 8 [.ref rd, .ref ho, .ref nw, .ref tr, .ref ts, .ref im, .null]), (ho, eO 0 [.int 0, .int 1, .int 0, .int 0, .int 0, .int 0, .int 0, .int 0, .int 0, .int 0, .ref g1, .ref g2, .ref g3]), (nw, eO 5 [.ref n0, .int 0, .int 0, .ref n1, .ref n2, .ref n3]), (n0, eO 7 [.int 0, .int (-1)])] [(h0, eO 8 [.ref rd, .ref ho, .ref nw, .ref tr, .ref ts, .ref im, .null]), (ho, eO 0 [.int 0, .int 1, .int 0, .int 0, .int 0, .int 0, .int 0, .int 0, .int 0, .int 0, .ref g1, .ref g2, .ref g3])] [(nw, eO 5 [.ref n0, .int 0, .int 0, .ref n1, .ref n2, .ref n3]), (n0, eO 7 [.int 0, .int (-1)])] [0, 1] [2, 3] := ⟨rfl, rfl, rfl, rfl, by decide⟩
  refine contx_V C hnt hP hD hS ct_1 (fun E h => ⟨h.1, fun h9 => h.2 h9⟩) (by decide) (by decide) (runx_V (As := [.int b]) (rest := []) C hP hD hS ct_1 (x_bill l D ty h0 rd ho nw tr ts im g1 g2 g3 b hl9) kV_PinchedBill_119 0 rfl rfl rfl rfl hl.1 rfl (nle rfl) d_X8_pinched_2 ⟨by decide, by decide, by decide, by decide⟩) (fun w_4 H locs hw_2 hP hD hS => ?_)
  obtain ⟨hbb_5, rfl⟩ := hw_2
  have hP : va_P D vwCl [(nw, eO 5 [.ref n0, .int 0, .int 0, .ref n1, .ref n2, .ref n3]), (n0, eO 7 [.int 0, .int (-1)]), (h0, eO 8 [.ref rd, .ref ho, .ref nw, .ref tr, .ref ts, .ref im, .null]), (ho, eO 0 [.int 0, .int 1, .int 0, .int 0, .int 0, .int 0, .int 0, .int 0, .int 0, .int 0, .ref g1, .ref g2, .ref g3])] H := hP
  have hD : va_D A [(nw, eO 5 [.ref n0, .int 0, .int 0, .ref n1, .ref n2, .ref n3]), (n0, eO 7 [.int 0, .int (-1)]), (h0, eO 8 [.ref rd, .ref ho, .ref nw, .ref tr, .ref ts, .ref im, .null]), (ho, eO 0 [.int 0, .int 1, .int 0, .int 0, .int 0, .int 0, .int 0, .int 0, .int 0, .int 0, .ref g1, .ref g2, .ref g3])] := hD
  obtain ⟨jb, hj_6, rfl⟩ := bB_of hbb_5
  refine lv_aload_n hx hb d_X8_pinched_5 rfl (lv_at hl 0 rfl) ?_
  have ct_7 : Cut [(nw, eO 5 [.ref n0, .int 0, .int 0, .ref n1, .ref n2, .ref n3]), (n0, eO 7 [.int 0, .int (-1)]), (h0, eO 8 [.ref rd, .ref ho, .ref nw, .ref tr, .ref ts, .ref im, .null]), (ho, eO 0 [.int 0, .int 1, .int 0, .int 0, .int 0, .int 0, .int 0, .int 0, .int 0, .int 0, .ref g1, .ref g2, .ref g3])] [(h0, eO 8 [.ref rd, .ref ho, .ref nw, .ref tr, .ref ts, .ref im, .null]), (ho, eO 0 [.int 0, .int 1, .int 0, .int 0, .int 0, .int 0, .int 0, .int 0, .int 0, .int 0, .ref g1, .ref g2, .ref g3])] [(nw, eO 5 [.ref n0, .int 0, .int 0, .ref n1, .ref n2, .ref n3]), (n0, eO 7 [.int 0, .int (-1)])] [2, 3] [0, 1] := ⟨rfl, rfl, rfl, rfl, by decide⟩
  refine cont_R C hP hD hS ct_7 (run_V (As := []) (rest := []) C hP hD hS ct_7 (c_lawBook l D ty h0 rd ho nw tr ts im g1 g2 g3) kV_PinchedBill_95 2 rfl rfl rfl rfl hl.1 rfl (nle rfl) d_X8_pinched_6 ⟨by decide, by decide, by decide, by decide⟩) (fun r_24 w_25 H locs hw_23 hP hD hS => ?_)
  obtain ⟨rk_8, lw_9, l1_10, l2_11, l3_12, l4_13, w1_14, w2_15, m1_16, m2_17, m3_18, m4_19, m5_20, m6_21, m7_22, rfl, rfl⟩ := hw_23
  have hP : va_P D vwCl [(nw, eO 5 [.ref n0, .int 0, .int 0, .ref n1, .ref n2, .ref n3]), (n0, eO 7 [.int 0, .int (-1)]), (h0, eO 8 [.ref rd, .ref ho, .ref nw, .ref tr, .ref ts, .ref im, .ref rk_8]), (ho, eO 0 [.int 0, .int 1, .int 0, .int 0, .int 0, .int 0, .int 0, .int 0, .int 0, .int 0, .ref g1, .ref g2, .ref g3]), (rk_8, eO 4 [.ref lw_9, .ref w1_14, .ref w2_15, .int 0, .int 0, .int 0, .ref ho, .ref m1_16, .int 1, .ref m2_17, .ref m3_18, .int (-1), .ref m4_19, .int (-1), .ref m5_20, .ref m6_21, .ref m7_22, .int 0]), (lw_9, eO 2 [.ref ho, .ref l1_10, .ref l2_11, .ref l3_12, .ref l4_13]), (l1_10, eI (ty 0) 1000 (fun _ => 0)), (l2_11, eI (ty 0) 8000 (fun _ => 0)), (l3_12, eI (ty 0) 8 (fun _ => 0)), (l4_13, eI (ty 0) 64 (fun _ => 0)), (w1_14, eO 7 [.int 0, .int (-1)]), (w2_15, eO 7 [.int 0, .int (-1)]), (m1_16, eI (ty 0) 9000 (fun _ => 0)), (m2_17, eI (ty 0) 1000 (fun _ => 0)), (m3_18, eI (ty 0) 1000 (fun _ => 0)), (m4_19, eI (ty 0) 256 (fun _ => 0)), (m5_20, eI (ty 0) 8 (fun _ => 0)), (m6_21, eI (ty 0) 1000 (fun _ => 0)), (m7_22, eI (ty 0) 1000 (fun _ => 0))] H := hP
  have hD : va_D A [(nw, eO 5 [.ref n0, .int 0, .int 0, .ref n1, .ref n2, .ref n3]), (n0, eO 7 [.int 0, .int (-1)]), (h0, eO 8 [.ref rd, .ref ho, .ref nw, .ref tr, .ref ts, .ref im, .ref rk_8]), (ho, eO 0 [.int 0, .int 1, .int 0, .int 0, .int 0, .int 0, .int 0, .int 0, .int 0, .int 0, .ref g1, .ref g2, .ref g3]), (rk_8, eO 4 [.ref lw_9, .ref w1_14, .ref w2_15, .int 0, .int 0, .int 0, .ref ho, .ref m1_16, .int 1, .ref m2_17, .ref m3_18, .int (-1), .ref m4_19, .int (-1), .ref m5_20, .ref m6_21, .ref m7_22, .int 0]), (lw_9, eO 2 [.ref ho, .ref l1_10, .ref l2_11, .ref l3_12, .ref l4_13]), (l1_10, eI (ty 0) 1000 (fun _ => 0)), (l2_11, eI (ty 0) 8000 (fun _ => 0)), (l3_12, eI (ty 0) 8 (fun _ => 0)), (l4_13, eI (ty 0) 64 (fun _ => 0)), (w1_14, eO 7 [.int 0, .int (-1)]), (w2_15, eO 7 [.int 0, .int (-1)]), (m1_16, eI (ty 0) 9000 (fun _ => 0)), (m2_17, eI (ty 0) 1000 (fun _ => 0)), (m3_18, eI (ty 0) 1000 (fun _ => 0)), (m4_19, eI (ty 0) 256 (fun _ => 0)), (m5_20, eI (ty 0) 8 (fun _ => 0)), (m6_21, eI (ty 0) 1000 (fun _ => 0)), (m7_22, eI (ty 0) 1000 (fun _ => 0))] := hD
  refine lv_iload_n hx hb d_X8_pinched_9 rfl (lv_at hl 1 rfl) ?_
  have ct_26 : Cut [(nw, eO 5 [.ref n0, .int 0, .int 0, .ref n1, .ref n2, .ref n3]), (n0, eO 7 [.int 0, .int (-1)]), (h0, eO 8 [.ref rd, .ref ho, .ref nw, .ref tr, .ref ts, .ref im, .ref rk_8]), (ho, eO 0 [.int 0, .int 1, .int 0, .int 0, .int 0, .int 0, .int 0, .int 0, .int 0, .int 0, .ref g1, .ref g2, .ref g3]), (rk_8, eO 4 [.ref lw_9, .ref w1_14, .ref w2_15, .int 0, .int 0, .int 0, .ref ho, .ref m1_16, .int 1, .ref m2_17, .ref m3_18, .int (-1), .ref m4_19, .int (-1), .ref m5_20, .ref m6_21, .ref m7_22, .int 0]), (lw_9, eO 2 [.ref ho, .ref l1_10, .ref l2_11, .ref l3_12, .ref l4_13]), (l1_10, eI (ty 0) 1000 (fun _ => 0)), (l2_11, eI (ty 0) 8000 (fun _ => 0)), (l3_12, eI (ty 0) 8 (fun _ => 0)), (l4_13, eI (ty 0) 64 (fun _ => 0)), (w1_14, eO 7 [.int 0, .int (-1)]), (w2_15, eO 7 [.int 0, .int (-1)]), (m1_16, eI (ty 0) 9000 (fun _ => 0)), (m2_17, eI (ty 0) 1000 (fun _ => 0)), (m3_18, eI (ty 0) 1000 (fun _ => 0)), (m4_19, eI (ty 0) 256 (fun _ => 0)), (m5_20, eI (ty 0) 8 (fun _ => 0)), (m6_21, eI (ty 0) 1000 (fun _ => 0)), (m7_22, eI (ty 0) 1000 (fun _ => 0))] [(lw_9, eO 2 [.ref ho, .ref l1_10, .ref l2_11, .ref l3_12, .ref l4_13]), (ho, eO 0 [.int 0, .int 1, .int 0, .int 0, .int 0, .int 0, .int 0, .int 0, .int 0, .int 0, .ref g1, .ref g2, .ref g3]), (l1_10, eI (ty 0) 1000 (fun _ => 0)), (l3_12, eI (ty 0) 8 (fun _ => 0))] [(nw, eO 5 [.ref n0, .int 0, .int 0, .ref n1, .ref n2, .ref n3]), (n0, eO 7 [.int 0, .int (-1)]), (h0, eO 8 [.ref rd, .ref ho, .ref nw, .ref tr, .ref ts, .ref im, .ref rk_8]), (rk_8, eO 4 [.ref lw_9, .ref w1_14, .ref w2_15, .int 0, .int 0, .int 0, .ref ho, .ref m1_16, .int 1, .ref m2_17, .ref m3_18, .int (-1), .ref m4_19, .int (-1), .ref m5_20, .ref m6_21, .ref m7_22, .int 0]), (l2_11, eI (ty 0) 8000 (fun _ => 0)), (l4_13, eI (ty 0) 64 (fun _ => 0)), (w1_14, eO 7 [.int 0, .int (-1)]), (w2_15, eO 7 [.int 0, .int (-1)]), (m1_16, eI (ty 0) 9000 (fun _ => 0)), (m2_17, eI (ty 0) 1000 (fun _ => 0)), (m3_18, eI (ty 0) 1000 (fun _ => 0)), (m4_19, eI (ty 0) 256 (fun _ => 0)), (m5_20, eI (ty 0) 8 (fun _ => 0)), (m6_21, eI (ty 0) 1000 (fun _ => 0)), (m7_22, eI (ty 0) 1000 (fun _ => 0))] [5, 3, 6, 8] [0, 1, 2, 4, 7, 9, 10, 11, 12, 13, 14, 15, 16, 17, 18] := ⟨rfl, rfl, rfl, rfl, by decide⟩
  refine cont_I C hP hD hS ct_26 (run_V (As := [.int (nI (100 * jb))]) (rest := []) C hP hD hS ct_26 (c_pin l D ty lw_9 ho l1_10 l2_11 l3_12 l4_13 g1 g2 g3 (fun _ => 0) (fun _ => 0) (100 * jb) (by omega) B01_0) kV_PinchedBill_108 5 rfl rfl rfl rfl hl.1 rfl (nle rfl) d_X8_pinched_10 ⟨by decide, by decide, by decide, by decide⟩) (fun r_30 w_31 H locs hw_29 hP hD hS => ?_)
  obtain ⟨f9_27, v9_28, hf9_32, rfl, rfl⟩ := hw_29
  have hP : va_P D vwCl [(nw, eO 5 [.ref n0, .int 0, .int 0, .ref n1, .ref n2, .ref n3]), (n0, eO 7 [.int 0, .int (-1)]), (h0, eO 8 [.ref rd, .ref ho, .ref nw, .ref tr, .ref ts, .ref im, .ref rk_8]), (rk_8, eO 4 [.ref lw_9, .ref w1_14, .ref w2_15, .int 0, .int 0, .int 0, .ref ho, .ref m1_16, .int 1, .ref m2_17, .ref m3_18, .int (-1), .ref m4_19, .int (-1), .ref m5_20, .ref m6_21, .ref m7_22, .int 0]), (l2_11, eI (ty 0) 8000 (fun _ => 0)), (l4_13, eI (ty 0) 64 (fun _ => 0)), (w1_14, eO 7 [.int 0, .int (-1)]), (w2_15, eO 7 [.int 0, .int (-1)]), (m1_16, eI (ty 0) 9000 (fun _ => 0)), (m2_17, eI (ty 0) 1000 (fun _ => 0)), (m3_18, eI (ty 0) 1000 (fun _ => 0)), (m4_19, eI (ty 0) 256 (fun _ => 0)), (m5_20, eI (ty 0) 8 (fun _ => 0)), (m6_21, eI (ty 0) 1000 (fun _ => 0)), (m7_22, eI (ty 0) 1000 (fun _ => 0)), (lw_9, eO 2 [.ref ho, .ref l1_10, .ref l2_11, .ref l3_12, .ref l4_13]), (ho, eO 0 [.int 0, .int 1, .int 0, .int 0, .int 0, .int 0, .int 0, .int 0, .int 0, .int 0, .ref g1, .ref g2, .ref g3]), (l1_10, eI (ty 0) 1000 f9_27), (l3_12, eI (ty 0) 8 v9_28)] H := hP
  have hD : va_D A [(nw, eO 5 [.ref n0, .int 0, .int 0, .ref n1, .ref n2, .ref n3]), (n0, eO 7 [.int 0, .int (-1)]), (h0, eO 8 [.ref rd, .ref ho, .ref nw, .ref tr, .ref ts, .ref im, .ref rk_8]), (rk_8, eO 4 [.ref lw_9, .ref w1_14, .ref w2_15, .int 0, .int 0, .int 0, .ref ho, .ref m1_16, .int 1, .ref m2_17, .ref m3_18, .int (-1), .ref m4_19, .int (-1), .ref m5_20, .ref m6_21, .ref m7_22, .int 0]), (l2_11, eI (ty 0) 8000 (fun _ => 0)), (l4_13, eI (ty 0) 64 (fun _ => 0)), (w1_14, eO 7 [.int 0, .int (-1)]), (w2_15, eO 7 [.int 0, .int (-1)]), (m1_16, eI (ty 0) 9000 (fun _ => 0)), (m2_17, eI (ty 0) 1000 (fun _ => 0)), (m3_18, eI (ty 0) 1000 (fun _ => 0)), (m4_19, eI (ty 0) 256 (fun _ => 0)), (m5_20, eI (ty 0) 8 (fun _ => 0)), (m6_21, eI (ty 0) 1000 (fun _ => 0)), (m7_22, eI (ty 0) 1000 (fun _ => 0)), (lw_9, eO 2 [.ref ho, .ref l1_10, .ref l2_11, .ref l3_12, .ref l4_13]), (ho, eO 0 [.int 0, .int 1, .int 0, .int 0, .int 0, .int 0, .int 0, .int 0, .int 0, .int 0, .ref g1, .ref g2, .ref g3]), (l1_10, eI (ty 0) 1000 f9_27), (l3_12, eI (ty 0) 8 v9_28)] := hD
  refine lv_aload_n hx hb d_X8_pinched_13 rfl (lv_at hl 0 rfl) ?_
  refine r_get (v := .ref nw) C hP 2 rfl rfl lay_X8 2 (by decide) k_322 rfl d_X8_pinched_14 ?_
  refine r_get (v := .int 0) C hP 0 rfl rfl lay_X5 1 (by decide) k_297 rfl d_X8_pinched_17 ?_
  refine r_iand (z := 0) C d_X8_pinched_20 (by decide) ?_
  exact vx_ret (ret_I (w := []) C hP hD hS [] rfl rfl ⟨hbb_5, rfl, rfl⟩ (by decide) (by decide) d_X8_pinched_21)
set_option maxHeartbeats 4000000 in
set_option maxRecDepth 100000 in
theorem p_steps (l : Launch) (D : va_G) (ty : Nat → ClassId) (h0 : Nat) (rd : Nat) (ho : Nat) (nw : Nat) (tr : Nat) (ts : Nat) (im : Nat) (g1 : Nat) (g2 : Nat) (g3 : Nat) (n0 : Nat) (n1 : Nat) (n2 : Nat) (n3 : Nat) (n : Int32) (hl9 : l.stackTraces = false) : CX l D ty ⟨"PinchedBill", "steps", "(I)I"⟩ prog_1_method_11_code 2 (some .int) 7 114 16 22369 [.ref h0, .int n] [(h0, eO 8 [.ref rd, .ref ho, .ref nw, .ref tr, .ref ts, .ref im, .null]), (ho, eO 0 [.int 0, .int 1, .int 0, .int 0, .int 0, .int 0, .int 0, .int 0, .int 0, .int 0, .ref g1, .ref g2, .ref g3]), (nw, eO 5 [.ref n0, .int 0, .int 0, .ref n1, .ref n2, .ref n3]), (n0, eO 7 [.int 0, .int (-1)]), (n1, eI (ty 0) 10 (fun _ => 0)), (n2, eI (ty 0) 10 (fun _ => 0)), (n3, eI (ty 0) 10 (fun _ => 0))] (QI D ty (fun (r : Int32) (w : va_W) => ((¬ n < 1 ∧ ¬ 999 < n)) ∧ 0 = r ∧ w = [])) (fun E => E = "java/lang/IllegalArgumentException" ∧ ¬ ((¬ n < 1 ∧ ¬ 999 < n))) := by
  refine CX_of (by decide) ?_
  intro p e s m below meth c A C hnt hP hD hS
  obtain ⟨⟨hx, hb, hml, hown, hts⟩, hr, hlocks, hnm, hK, hE, hA, hZ⟩ := id C
  refine startW [.ref h0, .int n] 2 (nle rfl) (lv := [(0, .ref h0), (1, .int n)]) rfl (fun ls hl => ?_)
  refine lv_iload_n hx hb d_X8_steps_0 rfl (lv_at hl 1 rfl) ?_
  refine lv_iconst (v := 1) hx hb d_X8_steps_1 (by decide) ?_
  refine lv_sipush (v := 999) hx hb d_X8_steps_2 (by decide) ?_
  have ct_1 : Cut [(h0, eO 8 [.ref rd, .ref ho, .ref nw, .ref tr, .ref ts, .ref im, .null]), (ho, eO 0 [.int 0, .int 1, .int 0, .int 0, .int 0, .int 0, .int 0, .int 0, .int 0, .int 0, .ref g1, .ref g2, .ref g3]), (nw, eO 5 [.ref n0, .int 0, .int 0, .ref n1, .ref n2, .ref n3]), (n0, eO 7 [.int 0, .int (-1)]), (n1, eI (ty 0) 10 (fun _ => 0)), (n2, eI (ty 0) 10 (fun _ => 0)), (n3, eI (ty 0) 10 (fun _ => 0))] [] [(h0, eO 8 [.ref rd, .ref ho, .ref nw, .ref tr, .ref ts, .ref im, .null]), (ho, eO 0 [.int 0, .int 1, .int 0, .int 0, .int 0, .int 0, .int 0, .int 0, .int 0, .int 0, .ref g1, .ref g2, .ref g3]), (nw, eO 5 [.ref n0, .int 0, .int 0, .ref n1, .ref n2, .ref n3]), (n0, eO 7 [.int 0, .int (-1)]), (n1, eI (ty 0) 10 (fun _ => 0)), (n2, eI (ty 0) 10 (fun _ => 0)), (n3, eI (ty 0) 10 (fun _ => 0))] [] [0, 1, 2, 3, 4, 5, 6] := ⟨rfl, rfl, rfl, rfl, by decide⟩
  refine contx_V C hnt hP hD hS ct_1 (fun E h => ⟨h.1, fun h9 => h.2 h9⟩) (by decide) (by decide) (runx_S (As := [.int n, .int 1, .int 999]) (rest := []) C hP hD hS ct_1 (x_within l D ty n 1 999 hl9) kS_PinchedBill_53 rfl hl.1 rfl (nle rfl) d_X8_steps_5 ⟨by decide, by decide, by decide, by decide⟩) (fun w_4 H locs hw_2 hP hD hS => ?_)
  obtain ⟨hwi_5, rfl⟩ := hw_2
  have hP : va_P D vwCl [(h0, eO 8 [.ref rd, .ref ho, .ref nw, .ref tr, .ref ts, .ref im, .null]), (ho, eO 0 [.int 0, .int 1, .int 0, .int 0, .int 0, .int 0, .int 0, .int 0, .int 0, .int 0, .ref g1, .ref g2, .ref g3]), (nw, eO 5 [.ref n0, .int 0, .int 0, .ref n1, .ref n2, .ref n3]), (n0, eO 7 [.int 0, .int (-1)]), (n1, eI (ty 0) 10 (fun _ => 0)), (n2, eI (ty 0) 10 (fun _ => 0)), (n3, eI (ty 0) 10 (fun _ => 0))] H := hP
  have hD : va_D A [(h0, eO 8 [.ref rd, .ref ho, .ref nw, .ref tr, .ref ts, .ref im, .null]), (ho, eO 0 [.int 0, .int 1, .int 0, .int 0, .int 0, .int 0, .int 0, .int 0, .int 0, .int 0, .ref g1, .ref g2, .ref g3]), (nw, eO 5 [.ref n0, .int 0, .int 0, .ref n1, .ref n2, .ref n3]), (n0, eO 7 [.int 0, .int (-1)]), (n1, eI (ty 0) 10 (fun _ => 0)), (n2, eI (ty 0) 10 (fun _ => 0)), (n3, eI (ty 0) 10 (fun _ => 0))] := hD
  refine lv_aload_n hx hb d_X8_steps_8 rfl (lv_at hl 0 rfl) ?_
  refine r_get (v := .ref nw) C hP 0 rfl rfl lay_X8 2 (by decide) k_322 rfl d_X8_steps_9 ?_
  have ct_6 : Cut [(h0, eO 8 [.ref rd, .ref ho, .ref nw, .ref tr, .ref ts, .ref im, .null]), (ho, eO 0 [.int 0, .int 1, .int 0, .int 0, .int 0, .int 0, .int 0, .int 0, .int 0, .int 0, .ref g1, .ref g2, .ref g3]), (nw, eO 5 [.ref n0, .int 0, .int 0, .ref n1, .ref n2, .ref n3]), (n0, eO 7 [.int 0, .int (-1)]), (n1, eI (ty 0) 10 (fun _ => 0)), (n2, eI (ty 0) 10 (fun _ => 0)), (n3, eI (ty 0) 10 (fun _ => 0))] [(nw, eO 5 [.ref n0, .int 0, .int 0, .ref n1, .ref n2, .ref n3]), (n0, eO 7 [.int 0, .int (-1)]), (n1, eI (ty 0) 10 (fun _ => 0)), (n2, eI (ty 0) 10 (fun _ => 0)), (n3, eI (ty 0) 10 (fun _ => 0))] [(h0, eO 8 [.ref rd, .ref ho, .ref nw, .ref tr, .ref ts, .ref im, .null]), (ho, eO 0 [.int 0, .int 1, .int 0, .int 0, .int 0, .int 0, .int 0, .int 0, .int 0, .int 0, .ref g1, .ref g2, .ref g3])] [2, 3, 4, 5, 6] [0, 1] := ⟨rfl, rfl, rfl, rfl, by decide⟩
  refine cont_V C hP hD hS ct_6 (run_V (As := []) (rest := []) C hP hD hS ct_6 (c_record l D ty nw n0 n1 n2 n3 0 (-1) 0 (fun _ => 0) (fun _ => 0) (fun _ => 0) (by omega)) kV_PinchedBill_125 2 rfl rfl rfl rfl hl.1 rfl (nle rfl) d_X8_steps_12 ⟨by decide, by decide, by decide, by decide⟩) (fun w_13 H locs hw_11 hP hD hS => ?_)
  obtain ⟨d9_7, pa9_8, pb9_9, pc9_10, hd9_14, rfl⟩ := hw_11
  have hP : va_P D vwCl [(h0, eO 8 [.ref rd, .ref ho, .ref nw, .ref tr, .ref ts, .ref im, .null]), (ho, eO 0 [.int 0, .int 1, .int 0, .int 0, .int 0, .int 0, .int 0, .int 0, .int 0, .int 0, .ref g1, .ref g2, .ref g3]), (nw, eO 5 [.ref n0, .int 0, .int (nI d9_7), .ref n1, .ref n2, .ref n3]), (n0, eO 7 [.int 0, .int (-1)]), (n1, eI (ty 0) 10 pa9_8), (n2, eI (ty 0) 10 pb9_9), (n3, eI (ty 0) 10 pc9_10)] H := hP
  have hD : va_D A [(h0, eO 8 [.ref rd, .ref ho, .ref nw, .ref tr, .ref ts, .ref im, .null]), (ho, eO 0 [.int 0, .int 1, .int 0, .int 0, .int 0, .int 0, .int 0, .int 0, .int 0, .int 0, .ref g1, .ref g2, .ref g3]), (nw, eO 5 [.ref n0, .int 0, .int (nI d9_7), .ref n1, .ref n2, .ref n3]), (n0, eO 7 [.int 0, .int (-1)]), (n1, eI (ty 0) 10 pa9_8), (n2, eI (ty 0) 10 pb9_9), (n3, eI (ty 0) 10 pc9_10)] := hD
  refine lv_aload_n hx hb d_X8_steps_15 rfl (lv_at hl 0 rfl) ?_
  have ct_15 : Cut [(h0, eO 8 [.ref rd, .ref ho, .ref nw, .ref tr, .ref ts, .ref im, .null]), (ho, eO 0 [.int 0, .int 1, .int 0, .int 0, .int 0, .int 0, .int 0, .int 0, .int 0, .int 0, .ref g1, .ref g2, .ref g3]), (nw, eO 5 [.ref n0, .int 0, .int (nI d9_7), .ref n1, .ref n2, .ref n3]), (n0, eO 7 [.int 0, .int (-1)]), (n1, eI (ty 0) 10 pa9_8), (n2, eI (ty 0) 10 pb9_9), (n3, eI (ty 0) 10 pc9_10)] [(h0, eO 8 [.ref rd, .ref ho, .ref nw, .ref tr, .ref ts, .ref im, .null]), (ho, eO 0 [.int 0, .int 1, .int 0, .int 0, .int 0, .int 0, .int 0, .int 0, .int 0, .int 0, .ref g1, .ref g2, .ref g3])] [(nw, eO 5 [.ref n0, .int 0, .int (nI d9_7), .ref n1, .ref n2, .ref n3]), (n0, eO 7 [.int 0, .int (-1)]), (n1, eI (ty 0) 10 pa9_8), (n2, eI (ty 0) 10 pb9_9), (n3, eI (ty 0) 10 pc9_10)] [0, 1] [2, 3, 4, 5, 6] := ⟨rfl, rfl, rfl, rfl, by decide⟩
  refine cont_R C hP hD hS ct_15 (run_V (As := []) (rest := []) C hP hD hS ct_15 (c_lawBook l D ty h0 rd ho nw tr ts im g1 g2 g3) kV_PinchedBill_95 0 rfl rfl rfl rfl hl.1 rfl (nle rfl) d_X8_steps_16 ⟨by decide, by decide, by decide, by decide⟩) (fun r_32 w_33 H locs hw_31 hP hD hS => ?_)
  obtain ⟨rk_16, lw_17, l1_18, l2_19, l3_20, l4_21, w1_22, w2_23, m1_24, m2_25, m3_26, m4_27, m5_28, m6_29, m7_30, rfl, rfl⟩ := hw_31
  have hP : va_P D vwCl [(nw, eO 5 [.ref n0, .int 0, .int (nI d9_7), .ref n1, .ref n2, .ref n3]), (n0, eO 7 [.int 0, .int (-1)]), (n1, eI (ty 0) 10 pa9_8), (n2, eI (ty 0) 10 pb9_9), (n3, eI (ty 0) 10 pc9_10), (h0, eO 8 [.ref rd, .ref ho, .ref nw, .ref tr, .ref ts, .ref im, .ref rk_16]), (ho, eO 0 [.int 0, .int 1, .int 0, .int 0, .int 0, .int 0, .int 0, .int 0, .int 0, .int 0, .ref g1, .ref g2, .ref g3]), (rk_16, eO 4 [.ref lw_17, .ref w1_22, .ref w2_23, .int 0, .int 0, .int 0, .ref ho, .ref m1_24, .int 1, .ref m2_25, .ref m3_26, .int (-1), .ref m4_27, .int (-1), .ref m5_28, .ref m6_29, .ref m7_30, .int 0]), (lw_17, eO 2 [.ref ho, .ref l1_18, .ref l2_19, .ref l3_20, .ref l4_21]), (l1_18, eI (ty 0) 1000 (fun _ => 0)), (l2_19, eI (ty 0) 8000 (fun _ => 0)), (l3_20, eI (ty 0) 8 (fun _ => 0)), (l4_21, eI (ty 0) 64 (fun _ => 0)), (w1_22, eO 7 [.int 0, .int (-1)]), (w2_23, eO 7 [.int 0, .int (-1)]), (m1_24, eI (ty 0) 9000 (fun _ => 0)), (m2_25, eI (ty 0) 1000 (fun _ => 0)), (m3_26, eI (ty 0) 1000 (fun _ => 0)), (m4_27, eI (ty 0) 256 (fun _ => 0)), (m5_28, eI (ty 0) 8 (fun _ => 0)), (m6_29, eI (ty 0) 1000 (fun _ => 0)), (m7_30, eI (ty 0) 1000 (fun _ => 0))] H := hP
  have hD : va_D A [(nw, eO 5 [.ref n0, .int 0, .int (nI d9_7), .ref n1, .ref n2, .ref n3]), (n0, eO 7 [.int 0, .int (-1)]), (n1, eI (ty 0) 10 pa9_8), (n2, eI (ty 0) 10 pb9_9), (n3, eI (ty 0) 10 pc9_10), (h0, eO 8 [.ref rd, .ref ho, .ref nw, .ref tr, .ref ts, .ref im, .ref rk_16]), (ho, eO 0 [.int 0, .int 1, .int 0, .int 0, .int 0, .int 0, .int 0, .int 0, .int 0, .int 0, .ref g1, .ref g2, .ref g3]), (rk_16, eO 4 [.ref lw_17, .ref w1_22, .ref w2_23, .int 0, .int 0, .int 0, .ref ho, .ref m1_24, .int 1, .ref m2_25, .ref m3_26, .int (-1), .ref m4_27, .int (-1), .ref m5_28, .ref m6_29, .ref m7_30, .int 0]), (lw_17, eO 2 [.ref ho, .ref l1_18, .ref l2_19, .ref l3_20, .ref l4_21]), (l1_18, eI (ty 0) 1000 (fun _ => 0)), (l2_19, eI (ty 0) 8000 (fun _ => 0)), (l3_20, eI (ty 0) 8 (fun _ => 0)), (l4_21, eI (ty 0) 64 (fun _ => 0)), (w1_22, eO 7 [.int 0, .int (-1)]), (w2_23, eO 7 [.int 0, .int (-1)]), (m1_24, eI (ty 0) 9000 (fun _ => 0)), (m2_25, eI (ty 0) 1000 (fun _ => 0)), (m3_26, eI (ty 0) 1000 (fun _ => 0)), (m4_27, eI (ty 0) 256 (fun _ => 0)), (m5_28, eI (ty 0) 8 (fun _ => 0)), (m6_29, eI (ty 0) 1000 (fun _ => 0)), (m7_30, eI (ty 0) 1000 (fun _ => 0))] := hD
  refine lv_aload_n hx hb d_X8_steps_19 rfl (lv_at hl 0 rfl) ?_
  refine r_get (v := .ref nw) C hP 5 rfl rfl lay_X8 2 (by decide) k_322 rfl d_X8_steps_20 ?_
  refine r_get (v := .ref n0) C hP 0 rfl rfl lay_X5 0 (by decide) k_295 rfl d_X8_steps_23 ?_
  refine lv_iload_n hx hb d_X8_steps_26 rfl (lv_at hl 1 rfl) ?_
  refine lv_aload_n hx hb d_X8_steps_27 rfl (lv_at hl 0 rfl) ?_
  refine r_get (v := .ref nw) C hP 5 rfl rfl lay_X8 2 (by decide) k_322 rfl d_X8_steps_28 ?_
  refine r_get (v := .int 0) C hP 0 rfl rfl lay_X5 1 (by decide) k_297 rfl d_X8_steps_31 ?_
  have ct_34 : Cut [(nw, eO 5 [.ref n0, .int 0, .int (nI d9_7), .ref n1, .ref n2, .ref n3]), (n0, eO 7 [.int 0, .int (-1)]), (n1, eI (ty 0) 10 pa9_8), (n2, eI (ty 0) 10 pb9_9), (n3, eI (ty 0) 10 pc9_10), (h0, eO 8 [.ref rd, .ref ho, .ref nw, .ref tr, .ref ts, .ref im, .ref rk_16]), (ho, eO 0 [.int 0, .int 1, .int 0, .int 0, .int 0, .int 0, .int 0, .int 0, .int 0, .int 0, .ref g1, .ref g2, .ref g3]), (rk_16, eO 4 [.ref lw_17, .ref w1_22, .ref w2_23, .int 0, .int 0, .int 0, .ref ho, .ref m1_24, .int 1, .ref m2_25, .ref m3_26, .int (-1), .ref m4_27, .int (-1), .ref m5_28, .ref m6_29, .ref m7_30, .int 0]), (lw_17, eO 2 [.ref ho, .ref l1_18, .ref l2_19, .ref l3_20, .ref l4_21]), (l1_18, eI (ty 0) 1000 (fun _ => 0)), (l2_19, eI (ty 0) 8000 (fun _ => 0)), (l3_20, eI (ty 0) 8 (fun _ => 0)), (l4_21, eI (ty 0) 64 (fun _ => 0)), (w1_22, eO 7 [.int 0, .int (-1)]), (w2_23, eO 7 [.int 0, .int (-1)]), (m1_24, eI (ty 0) 9000 (fun _ => 0)), (m2_25, eI (ty 0) 1000 (fun _ => 0)), (m3_26, eI (ty 0) 1000 (fun _ => 0)), (m4_27, eI (ty 0) 256 (fun _ => 0)), (m5_28, eI (ty 0) 8 (fun _ => 0)), (m6_29, eI (ty 0) 1000 (fun _ => 0)), (m7_30, eI (ty 0) 1000 (fun _ => 0))] [(lw_17, eO 2 [.ref ho, .ref l1_18, .ref l2_19, .ref l3_20, .ref l4_21]), (ho, eO 0 [.int 0, .int 1, .int 0, .int 0, .int 0, .int 0, .int 0, .int 0, .int 0, .int 0, .ref g1, .ref g2, .ref g3]), (l1_18, eI (ty 0) 1000 (fun _ => 0)), (l3_20, eI (ty 0) 8 (fun _ => 0)), (n0, eO 7 [.int 0, .int (-1)])] [(nw, eO 5 [.ref n0, .int 0, .int (nI d9_7), .ref n1, .ref n2, .ref n3]), (n1, eI (ty 0) 10 pa9_8), (n2, eI (ty 0) 10 pb9_9), (n3, eI (ty 0) 10 pc9_10), (h0, eO 8 [.ref rd, .ref ho, .ref nw, .ref tr, .ref ts, .ref im, .ref rk_16]), (rk_16, eO 4 [.ref lw_17, .ref w1_22, .ref w2_23, .int 0, .int 0, .int 0, .ref ho, .ref m1_24, .int 1, .ref m2_25, .ref m3_26, .int (-1), .ref m4_27, .int (-1), .ref m5_28, .ref m6_29, .ref m7_30, .int 0]), (l2_19, eI (ty 0) 8000 (fun _ => 0)), (l4_21, eI (ty 0) 64 (fun _ => 0)), (w1_22, eO 7 [.int 0, .int (-1)]), (w2_23, eO 7 [.int 0, .int (-1)]), (m1_24, eI (ty 0) 9000 (fun _ => 0)), (m2_25, eI (ty 0) 1000 (fun _ => 0)), (m3_26, eI (ty 0) 1000 (fun _ => 0)), (m4_27, eI (ty 0) 256 (fun _ => 0)), (m5_28, eI (ty 0) 8 (fun _ => 0)), (m6_29, eI (ty 0) 1000 (fun _ => 0)), (m7_30, eI (ty 0) 1000 (fun _ => 0))] [8, 6, 9, 11, 1] [0, 2, 3, 4, 5, 7, 10, 12, 13, 14, 15, 16, 17, 18, 19, 20, 21] := ⟨rfl, rfl, rfl, rfl, by decide⟩
  refine cont_I C hP hD hS ct_34 (run_V (As := [.ref n0, .int n, .int 0]) (rest := []) C hP hD hS ct_34 (c_stepOften l D ty lw_17 ho l1_18 l2_19 l3_20 l4_21 g1 g2 g3 n0 (fun _ => 0) (fun _ => 0) 0 (-1) n (by omega) B01_0) kV_PinchedBill_128 8 rfl rfl rfl rfl hl.1 rfl (nle rfl) d_X8_steps_34 ⟨by decide, by decide, by decide, by decide⟩) (fun r_38 w_39 H locs hw_37 hP hD hS => ?_)
  obtain ⟨f9_35, v9_36, hf9_40, rfl, rfl⟩ := hw_37
  have hP : va_P D vwCl [(nw, eO 5 [.ref n0, .int 0, .int (nI d9_7), .ref n1, .ref n2, .ref n3]), (n1, eI (ty 0) 10 pa9_8), (n2, eI (ty 0) 10 pb9_9), (n3, eI (ty 0) 10 pc9_10), (h0, eO 8 [.ref rd, .ref ho, .ref nw, .ref tr, .ref ts, .ref im, .ref rk_16]), (rk_16, eO 4 [.ref lw_17, .ref w1_22, .ref w2_23, .int 0, .int 0, .int 0, .ref ho, .ref m1_24, .int 1, .ref m2_25, .ref m3_26, .int (-1), .ref m4_27, .int (-1), .ref m5_28, .ref m6_29, .ref m7_30, .int 0]), (l2_19, eI (ty 0) 8000 (fun _ => 0)), (l4_21, eI (ty 0) 64 (fun _ => 0)), (w1_22, eO 7 [.int 0, .int (-1)]), (w2_23, eO 7 [.int 0, .int (-1)]), (m1_24, eI (ty 0) 9000 (fun _ => 0)), (m2_25, eI (ty 0) 1000 (fun _ => 0)), (m3_26, eI (ty 0) 1000 (fun _ => 0)), (m4_27, eI (ty 0) 256 (fun _ => 0)), (m5_28, eI (ty 0) 8 (fun _ => 0)), (m6_29, eI (ty 0) 1000 (fun _ => 0)), (m7_30, eI (ty 0) 1000 (fun _ => 0)), (lw_17, eO 2 [.ref ho, .ref l1_18, .ref l2_19, .ref l3_20, .ref l4_21]), (ho, eO 0 [.int 0, .int 1, .int 0, .int 0, .int 0, .int 0, .int 0, .int 0, .int 0, .int 0, .ref g1, .ref g2, .ref g3]), (l1_18, eI (ty 0) 1000 f9_35), (l3_20, eI (ty 0) 8 v9_36), (n0, eO 7 [.int 0, .int (-1)])] H := hP
  have hD : va_D A [(nw, eO 5 [.ref n0, .int 0, .int (nI d9_7), .ref n1, .ref n2, .ref n3]), (n1, eI (ty 0) 10 pa9_8), (n2, eI (ty 0) 10 pb9_9), (n3, eI (ty 0) 10 pc9_10), (h0, eO 8 [.ref rd, .ref ho, .ref nw, .ref tr, .ref ts, .ref im, .ref rk_16]), (rk_16, eO 4 [.ref lw_17, .ref w1_22, .ref w2_23, .int 0, .int 0, .int 0, .ref ho, .ref m1_24, .int 1, .ref m2_25, .ref m3_26, .int (-1), .ref m4_27, .int (-1), .ref m5_28, .ref m6_29, .ref m7_30, .int 0]), (l2_19, eI (ty 0) 8000 (fun _ => 0)), (l4_21, eI (ty 0) 64 (fun _ => 0)), (w1_22, eO 7 [.int 0, .int (-1)]), (w2_23, eO 7 [.int 0, .int (-1)]), (m1_24, eI (ty 0) 9000 (fun _ => 0)), (m2_25, eI (ty 0) 1000 (fun _ => 0)), (m3_26, eI (ty 0) 1000 (fun _ => 0)), (m4_27, eI (ty 0) 256 (fun _ => 0)), (m5_28, eI (ty 0) 8 (fun _ => 0)), (m6_29, eI (ty 0) 1000 (fun _ => 0)), (m7_30, eI (ty 0) 1000 (fun _ => 0)), (lw_17, eO 2 [.ref ho, .ref l1_18, .ref l2_19, .ref l3_20, .ref l4_21]), (ho, eO 0 [.int 0, .int 1, .int 0, .int 0, .int 0, .int 0, .int 0, .int 0, .int 0, .int 0, .ref g1, .ref g2, .ref g3]), (l1_18, eI (ty 0) 1000 f9_35), (l3_20, eI (ty 0) 8 v9_36), (n0, eO 7 [.int 0, .int (-1)])] := hD
  exact vx_ret (ret_I (w := []) C hP hD hS [] rfl rfl ⟨hwi_5, rfl, rfl⟩ (by decide) (by decide) d_X8_steps_37)
set_option maxHeartbeats 4000000 in
set_option maxRecDepth 100000 in
theorem p_ends (l : Launch) (D : va_G) (ty : Nat → ClassId) (h0 : Nat) (rd : Nat) (ho : Nat) (nw : Nat) (tr : Nat) (ts : Nat) (im : Nat) (g1 : Nat) (g2 : Nat) (g3 : Nat) (n0 : Nat) (n1 : Nat) (n2 : Nat) (n3 : Nat) (b : Int32) (hl9 : l.stackTraces = false) : CX l D ty ⟨"PinchedBill", "ends", "(I)I"⟩ prog_1_method_19_code 2 (some .int) 7 137 16 22369 [.ref h0, .int b] [(h0, eO 8 [.ref rd, .ref ho, .ref nw, .ref tr, .ref ts, .ref im, .null]), (ho, eO 0 [.int 0, .int 1, .int 0, .int 0, .int 0, .int 0, .int 0, .int 0, .int 0, .int 0, .ref g1, .ref g2, .ref g3]), (nw, eO 5 [.ref n0, .int 0, .int 0, .ref n1, .ref n2, .ref n3]), (n0, eO 7 [.int 0, .int (-1)])] (QI D ty (fun (r : Int32) (w : va_W) => ((bB b = 1)) ∧ b = r ∧ w = [])) (fun E => E = "java/lang/IllegalArgumentException" ∧ ¬ ((bB b = 1))) := by
  refine CX_of (by decide) ?_
  intro p e s m below meth c A C hnt hP hD hS
  obtain ⟨⟨hx, hb, hml, hown, hts⟩, hr, hlocks, hnm, hK, hE, hA, hZ⟩ := id C
  refine startW [.ref h0, .int b] 2 (nle rfl) (lv := [(0, .ref h0), (1, .int b)]) rfl (fun ls hl => ?_)
  refine lv_aload_n hx hb d_X8_ends_0 rfl (lv_at hl 0 rfl) ?_
  refine lv_iload_n hx hb d_X8_ends_1 rfl (lv_at hl 1 rfl) ?_
  have ct_1 : Cut [(h0, eO 8 [.ref rd, .ref ho, .ref nw, .ref tr, .ref ts, .ref im, .null]), (ho, eO 0 [.int 0, .int 1, .int 0, .int 0, .int 0, .int 0, .int 0, .int 0, .int 0, .int 0, .ref g1, .ref g2, .ref g3]), (nw, eO 5 [.ref n0, .int 0, .int 0, .ref n1, .ref n2, .ref n3]), (n0, eO 7 [.int 0, .int (-1)])] [(h0, eO 8 [.ref rd, .ref ho, .ref nw, .ref tr, .ref ts, .ref im, .null]), (ho, eO 0 [.int 0, .int 1, .int 0, .int 0, .int 0, .int 0, .int 0, .int 0, .int 0, .int 0, .ref g1, .ref g2, .ref g3])] [(nw, eO 5 [.ref n0, .int 0, .int 0, .ref n1, .ref n2, .ref n3]), (n0, eO 7 [.int 0, .int (-1)])] [0, 1] [2, 3] := ⟨rfl, rfl, rfl, rfl, by decide⟩
  refine contx_V C hnt hP hD hS ct_1 (fun E h => ⟨h.1, fun h9 => h.2 h9⟩) (by decide) (by decide) (runx_V (As := [.int b]) (rest := []) C hP hD hS ct_1 (x_bill l D ty h0 rd ho nw tr ts im g1 g2 g3 b hl9) kV_PinchedBill_119 0 rfl rfl rfl rfl hl.1 rfl (nle rfl) d_X8_ends_2 ⟨by decide, by decide, by decide, by decide⟩) (fun w_4 H locs hw_2 hP hD hS => ?_)
  obtain ⟨hbb_5, rfl⟩ := hw_2
  have hP : va_P D vwCl [(nw, eO 5 [.ref n0, .int 0, .int 0, .ref n1, .ref n2, .ref n3]), (n0, eO 7 [.int 0, .int (-1)]), (h0, eO 8 [.ref rd, .ref ho, .ref nw, .ref tr, .ref ts, .ref im, .null]), (ho, eO 0 [.int 0, .int 1, .int 0, .int 0, .int 0, .int 0, .int 0, .int 0, .int 0, .int 0, .ref g1, .ref g2, .ref g3])] H := hP
  have hD : va_D A [(nw, eO 5 [.ref n0, .int 0, .int 0, .ref n1, .ref n2, .ref n3]), (n0, eO 7 [.int 0, .int (-1)]), (h0, eO 8 [.ref rd, .ref ho, .ref nw, .ref tr, .ref ts, .ref im, .null]), (ho, eO 0 [.int 0, .int 1, .int 0, .int 0, .int 0, .int 0, .int 0, .int 0, .int 0, .int 0, .ref g1, .ref g2, .ref g3])] := hD
  obtain ⟨jb, hj_6, rfl⟩ := bB_of hbb_5
  refine lv_aload_n hx hb d_X8_ends_5 rfl (lv_at hl 0 rfl) ?_
  refine lv_iload_n hx hb d_X8_ends_6 rfl (lv_at hl 1 rfl) ?_
  have ct_7 : Cut [(nw, eO 5 [.ref n0, .int 0, .int 0, .ref n1, .ref n2, .ref n3]), (n0, eO 7 [.int 0, .int (-1)]), (h0, eO 8 [.ref rd, .ref ho, .ref nw, .ref tr, .ref ts, .ref im, .null]), (ho, eO 0 [.int 0, .int 1, .int 0, .int 0, .int 0, .int 0, .int 0, .int 0, .int 0, .int 0, .ref g1, .ref g2, .ref g3])] [(h0, eO 8 [.ref rd, .ref ho, .ref nw, .ref tr, .ref ts, .ref im, .null]), (ho, eO 0 [.int 0, .int 1, .int 0, .int 0, .int 0, .int 0, .int 0, .int 0, .int 0, .int 0, .ref g1, .ref g2, .ref g3]), (nw, eO 5 [.ref n0, .int 0, .int 0, .ref n1, .ref n2, .ref n3])] [(n0, eO 7 [.int 0, .int (-1)])] [2, 3, 0] [1] := ⟨rfl, rfl, rfl, rfl, by decide⟩
  refine cont_R C hP hD hS ct_7 (run_V (As := [.int (nI (100 * jb))]) (rest := []) C hP hD hS ct_7 (c_traced l D ty h0 rd ho nw tr ts im g1 g2 g3 n0 n1 n2 n3 (100 * jb) (by omega)) kV_PinchedBill_172 2 rfl rfl rfl rfl hl.1 rfl (nle rfl) d_X8_ends_7 ⟨by decide, by decide, by decide, by decide⟩) (fun r_26 w_27 H locs hw_25 hP hD hS => ?_)
  obtain ⟨rk_8, lw_9, l1_10, l2_11, l3_12, l4_13, w1_14, w2_15, m1_16, m2_17, m3_18, m4_19, m5_20, m6_21, m7_22, f9_23, v9_24, rfl, rfl⟩ := hw_25
  have hP : va_P D vwCl [(n0, eO 7 [.int 0, .int (-1)]), (h0, eO 8 [.ref rd, .ref ho, .ref nw, .ref tr, .ref ts, .ref im, .ref rk_8]), (ho, eO 0 [.int 0, .int 1, .int 0, .int 0, .int 0, .int 0, .int 0, .int 0, .int 0, .int 0, .ref g1, .ref g2, .ref g3]), (nw, eO 5 [.ref n0, .int 0, .int 0, .ref n1, .ref n2, .ref n3]), (rk_8, eO 4 [.ref lw_9, .ref w1_14, .ref w2_15, .int (nI (100 * jb)), .int 0, .int 0, .ref ho, .ref m1_16, .int 9002, .ref m2_17, .ref m3_18, .int (-1), .ref m4_19, .int (-1), .ref m5_20, .ref m6_21, .ref m7_22, .int 0]), (lw_9, eO 2 [.ref ho, .ref l1_10, .ref l2_11, .ref l3_12, .ref l4_13]), (l1_10, eI (ty 0) 1000 f9_23), (l3_12, eI (ty 0) 8 v9_24), (w1_14, eO 7 [.int (nI (100 * jb)), .int (-1)]), (m5_20, eI (ty 0) 8 (fun _ => 0))] H := hP
  have hD : va_D A [(n0, eO 7 [.int 0, .int (-1)]), (h0, eO 8 [.ref rd, .ref ho, .ref nw, .ref tr, .ref ts, .ref im, .ref rk_8]), (ho, eO 0 [.int 0, .int 1, .int 0, .int 0, .int 0, .int 0, .int 0, .int 0, .int 0, .int 0, .ref g1, .ref g2, .ref g3]), (nw, eO 5 [.ref n0, .int 0, .int 0, .ref n1, .ref n2, .ref n3]), (rk_8, eO 4 [.ref lw_9, .ref w1_14, .ref w2_15, .int (nI (100 * jb)), .int 0, .int 0, .ref ho, .ref m1_16, .int 9002, .ref m2_17, .ref m3_18, .int (-1), .ref m4_19, .int (-1), .ref m5_20, .ref m6_21, .ref m7_22, .int 0]), (lw_9, eO 2 [.ref ho, .ref l1_10, .ref l2_11, .ref l3_12, .ref l4_13]), (l1_10, eI (ty 0) 1000 f9_23), (l3_12, eI (ty 0) 8 v9_24), (w1_14, eO 7 [.int (nI (100 * jb)), .int (-1)]), (m5_20, eI (ty 0) 8 (fun _ => 0))] := hD
  refine r_get (v := .int (nI (100 * jb))) C hP 4 rfl rfl lay_X4 3 (by decide) k_411 rfl d_X8_ends_10 ?_
  exact vx_ret (ret_I (w := []) C hP hD hS [] rfl rfl ⟨hbb_5, rfl, rfl⟩ (by decide) (by decide) d_X8_ends_13)
set_option maxHeartbeats 4000000 in
set_option maxRecDepth 100000 in
theorem p_takes (l : Launch) (D : va_G) (ty : Nat → ClassId) (h0 : Nat) (rd : Nat) (ho : Nat) (nw : Nat) (tr : Nat) (ts : Nat) (im : Nat) (g1 : Nat) (g2 : Nat) (g3 : Nat) (n0 : Nat) (n1 : Nat) (n2 : Nat) (n3 : Nat) (b : Int32) (hl9 : l.stackTraces = false) : CX l D ty ⟨"PinchedBill", "takes", "(I)I"⟩ prog_1_method_20_code 3 (some .int) 7 137 16 22369 [.ref h0, .int b] [(h0, eO 8 [.ref rd, .ref ho, .ref nw, .ref tr, .ref ts, .ref im, .null]), (ho, eO 0 [.int 0, .int 1, .int 0, .int 0, .int 0, .int 0, .int 0, .int 0, .int 0, .int 0, .ref g1, .ref g2, .ref g3]), (nw, eO 5 [.ref n0, .int 0, .int 0, .ref n1, .ref n2, .ref n3]), (n0, eO 7 [.int 0, .int (-1)])] (QI D ty (fun (r : Int32) (w : va_W) => ((bB b = 1)) ∧ 0 = r ∧ w = [])) (fun E => E = "java/lang/IllegalArgumentException" ∧ ¬ ((bB b = 1))) := by
  refine CX_of (by decide) ?_
  intro p e s m below meth c A C hnt hP hD hS
  obtain ⟨⟨hx, hb, hml, hown, hts⟩, hr, hlocks, hnm, hK, hE, hA, hZ⟩ := id C
  refine startW [.ref h0, .int b] 3 (nle rfl) (lv := [(0, .ref h0), (1, .int b)]) rfl (fun ls hl => ?_)
  refine lv_aload_n hx hb d_X8_takes_0 rfl (lv_at hl 0 rfl) ?_
  refine lv_iload_n hx hb d_X8_takes_1 rfl (lv_at hl 1 rfl) ?_
  have ct_1 : Cut [(h0, eO 8 [.ref rd, .ref ho, .ref nw, .ref tr, .ref ts, .ref im, .null]), (ho, eO 0 [.int 0, .int 1, .int 0, .int 0, .int 0, .int 0, .int 0, .int 0, .int 0, .int 0, .ref g1, .ref g2, .ref g3]), (nw, eO 5 [.ref n0, .int 0, .int 0, .ref n1, .ref n2, .ref n3]), (n0, eO 7 [.int 0, .int (-1)])] [(h0, eO 8 [.ref rd, .ref ho, .ref nw, .ref tr, .ref ts, .ref im, .null]), (ho, eO 0 [.int 0, .int 1, .int 0, .int 0, .int 0, .int 0, .int 0, .int 0, .int 0, .int 0, .ref g1, .ref g2, .ref g3])] [(nw, eO 5 [.ref n0, .int 0, .int 0, .ref n1, .ref n2, .ref n3]), (n0, eO 7 [.int 0, .int (-1)])] [0, 1] [2, 3] := ⟨rfl, rfl, rfl, rfl, by decide⟩
  refine contx_V C hnt hP hD hS ct_1 (fun E h => ⟨h.1, fun h9 => h.2 h9⟩) (by decide) (by decide) (runx_V (As := [.int b]) (rest := []) C hP hD hS ct_1 (x_bill l D ty h0 rd ho nw tr ts im g1 g2 g3 b hl9) kV_PinchedBill_119 0 rfl rfl rfl rfl hl.1 rfl (nle rfl) d_X8_takes_2 ⟨by decide, by decide, by decide, by decide⟩) (fun w_4 H locs hw_2 hP hD hS => ?_)
  obtain ⟨hbb_5, rfl⟩ := hw_2
  have hP : va_P D vwCl [(nw, eO 5 [.ref n0, .int 0, .int 0, .ref n1, .ref n2, .ref n3]), (n0, eO 7 [.int 0, .int (-1)]), (h0, eO 8 [.ref rd, .ref ho, .ref nw, .ref tr, .ref ts, .ref im, .null]), (ho, eO 0 [.int 0, .int 1, .int 0, .int 0, .int 0, .int 0, .int 0, .int 0, .int 0, .int 0, .ref g1, .ref g2, .ref g3])] H := hP
  have hD : va_D A [(nw, eO 5 [.ref n0, .int 0, .int 0, .ref n1, .ref n2, .ref n3]), (n0, eO 7 [.int 0, .int (-1)]), (h0, eO 8 [.ref rd, .ref ho, .ref nw, .ref tr, .ref ts, .ref im, .null]), (ho, eO 0 [.int 0, .int 1, .int 0, .int 0, .int 0, .int 0, .int 0, .int 0, .int 0, .int 0, .ref g1, .ref g2, .ref g3])] := hD
  obtain ⟨jb, hj_6, rfl⟩ := bB_of hbb_5
  refine lv_aload_n hx hb d_X8_takes_5 rfl (lv_at hl 0 rfl) ?_
  refine lv_iload_n hx hb d_X8_takes_6 rfl (lv_at hl 1 rfl) ?_
  have ct_7 : Cut [(nw, eO 5 [.ref n0, .int 0, .int 0, .ref n1, .ref n2, .ref n3]), (n0, eO 7 [.int 0, .int (-1)]), (h0, eO 8 [.ref rd, .ref ho, .ref nw, .ref tr, .ref ts, .ref im, .null]), (ho, eO 0 [.int 0, .int 1, .int 0, .int 0, .int 0, .int 0, .int 0, .int 0, .int 0, .int 0, .ref g1, .ref g2, .ref g3])] [(h0, eO 8 [.ref rd, .ref ho, .ref nw, .ref tr, .ref ts, .ref im, .null]), (ho, eO 0 [.int 0, .int 1, .int 0, .int 0, .int 0, .int 0, .int 0, .int 0, .int 0, .int 0, .ref g1, .ref g2, .ref g3]), (nw, eO 5 [.ref n0, .int 0, .int 0, .ref n1, .ref n2, .ref n3])] [(n0, eO 7 [.int 0, .int (-1)])] [2, 3, 0] [1] := ⟨rfl, rfl, rfl, rfl, by decide⟩
  refine cont_R C hP hD hS ct_7 (run_V (As := [.int (nI (100 * jb))]) (rest := []) C hP hD hS ct_7 (c_traced l D ty h0 rd ho nw tr ts im g1 g2 g3 n0 n1 n2 n3 (100 * jb) (by omega)) kV_PinchedBill_172 2 rfl rfl rfl rfl hl.1 rfl (nle rfl) d_X8_takes_7 ⟨by decide, by decide, by decide, by decide⟩) (fun r_26 w_27 H locs hw_25 hP hD hS => ?_)
  obtain ⟨rk_8, lw_9, l1_10, l2_11, l3_12, l4_13, w1_14, w2_15, m1_16, m2_17, m3_18, m4_19, m5_20, m6_21, m7_22, f9_23, v9_24, rfl, rfl⟩ := hw_25
  have hP : va_P D vwCl [(n0, eO 7 [.int 0, .int (-1)]), (h0, eO 8 [.ref rd, .ref ho, .ref nw, .ref tr, .ref ts, .ref im, .ref rk_8]), (ho, eO 0 [.int 0, .int 1, .int 0, .int 0, .int 0, .int 0, .int 0, .int 0, .int 0, .int 0, .ref g1, .ref g2, .ref g3]), (nw, eO 5 [.ref n0, .int 0, .int 0, .ref n1, .ref n2, .ref n3]), (rk_8, eO 4 [.ref lw_9, .ref w1_14, .ref w2_15, .int (nI (100 * jb)), .int 0, .int 0, .ref ho, .ref m1_16, .int 9002, .ref m2_17, .ref m3_18, .int (-1), .ref m4_19, .int (-1), .ref m5_20, .ref m6_21, .ref m7_22, .int 0]), (lw_9, eO 2 [.ref ho, .ref l1_10, .ref l2_11, .ref l3_12, .ref l4_13]), (l1_10, eI (ty 0) 1000 f9_23), (l3_12, eI (ty 0) 8 v9_24), (w1_14, eO 7 [.int (nI (100 * jb)), .int (-1)]), (m5_20, eI (ty 0) 8 (fun _ => 0))] H := hP
  have hD : va_D A [(n0, eO 7 [.int 0, .int (-1)]), (h0, eO 8 [.ref rd, .ref ho, .ref nw, .ref tr, .ref ts, .ref im, .ref rk_8]), (ho, eO 0 [.int 0, .int 1, .int 0, .int 0, .int 0, .int 0, .int 0, .int 0, .int 0, .int 0, .ref g1, .ref g2, .ref g3]), (nw, eO 5 [.ref n0, .int 0, .int 0, .ref n1, .ref n2, .ref n3]), (rk_8, eO 4 [.ref lw_9, .ref w1_14, .ref w2_15, .int (nI (100 * jb)), .int 0, .int 0, .ref ho, .ref m1_16, .int 9002, .ref m2_17, .ref m3_18, .int (-1), .ref m4_19, .int (-1), .ref m5_20, .ref m6_21, .ref m7_22, .int 0]), (lw_9, eO 2 [.ref ho, .ref l1_10, .ref l2_11, .ref l3_12, .ref l4_13]), (l1_10, eI (ty 0) 1000 f9_23), (l3_12, eI (ty 0) 8 v9_24), (w1_14, eO 7 [.int (nI (100 * jb)), .int (-1)]), (m5_20, eI (ty 0) 8 (fun _ => 0))] := hD
  refine lv_astore_n (lv' := [(2, .ref rk_8), (0, .ref h0), (1, .int (nI (100 * jb)))]) hx hb d_X8_takes_10 rfl hl (by decide) rfl (fun ls hl => ?_)
  refine lv_aload_n hx hb d_X8_takes_11 rfl (lv_at hl 0 rfl) ?_
  refine r_get (v := .int (nI (100 * jb))) C hP 4 rfl rfl lay_X4 3 (by decide) k_411 rfl d_X8_takes_12 ?_
  refine lv_iconst (v := (-1)) hx hb d_X8_takes_15 (by decide) ?_
  refine b_icmp_neT C 23 d_X8_takes_16 (by decide) (n_neneg (100 * jb) rfl (by omega) (by decide)) ?_
  refine lv_aload_n hx hb d_X8_takes_23 rfl (lv_at hl 0 rfl) ?_
  refine r_get (v := .int 0) C hP 4 rfl rfl lay_X4 4 (by decide) k_413 rfl d_X8_takes_24 ?_
  exact vx_ret (ret_I (w := []) C hP hD hS [] rfl rfl ⟨hbb_5, rfl, rfl⟩ (by decide) (by decide) d_X8_takes_27)
set_option maxHeartbeats 4000000 in
set_option maxRecDepth 100000 in
theorem p_goes (l : Launch) (D : va_G) (ty : Nat → ClassId) (h0 : Nat) (rd : Nat) (ho : Nat) (nw : Nat) (tr : Nat) (ts : Nat) (im : Nat) (g1 : Nat) (g2 : Nat) (g3 : Nat) (n0 : Nat) (n1 : Nat) (n2 : Nat) (n3 : Nat) (b : Int32) (n : Int32) (hl9 : l.stackTraces = false) : CX l D ty ⟨"PinchedBill", "goes", "(II)I"⟩ prog_1_method_21_code 3 (some .int) 7 137 17 22375 [.ref h0, .int b, .int n] [(h0, eO 8 [.ref rd, .ref ho, .ref nw, .ref tr, .ref ts, .ref im, .null]), (ho, eO 0 [.int 0, .int 1, .int 0, .int 0, .int 0, .int 0, .int 0, .int 0, .int 0, .int 0, .ref g1, .ref g2, .ref g3]), (nw, eO 5 [.ref n0, .int 0, .int 0, .ref n1, .ref n2, .ref n3]), (n0, eO 7 [.int 0, .int (-1)])] (QI D ty (fun (r : Int32) (w : va_W) => ((bB b = 1) ∧ (¬ n < 0 ∧ ¬ 9999 < n)) ∧ b = r ∧ w = [])) (fun E => E = "java/lang/IllegalArgumentException" ∧ ¬ ((bB b = 1) ∧ (¬ n < 0 ∧ ¬ 9999 < n))) := by
  refine CX_of (by decide) ?_
  intro p e s m below meth c A C hnt hP hD hS
  obtain ⟨⟨hx, hb, hml, hown, hts⟩, hr, hlocks, hnm, hK, hE, hA, hZ⟩ := id C
  refine startW [.ref h0, .int b, .int n] 3 (nle rfl) (lv := [(0, .ref h0), (1, .int b), (2, .int n)]) rfl (fun ls hl => ?_)
  refine lv_aload_n hx hb d_X8_goes_0 rfl (lv_at hl 0 rfl) ?_
  refine lv_iload_n hx hb d_X8_goes_1 rfl (lv_at hl 1 rfl) ?_
  have ct_1 : Cut [(h0, eO 8 [.ref rd, .ref ho, .ref nw, .ref tr, .ref ts, .ref im, .null]), (ho, eO 0 [.int 0, .int 1, .int 0, .int 0, .int 0, .int 0, .int 0, .int 0, .int 0, .int 0, .ref g1, .ref g2, .ref g3]), (nw, eO 5 [.ref n0, .int 0, .int 0, .ref n1, .ref n2, .ref n3]), (n0, eO 7 [.int 0, .int (-1)])] [(h0, eO 8 [.ref rd, .ref ho, .ref nw, .ref tr, .ref ts, .ref im, .null]), (ho, eO 0 [.int 0, .int 1, .int 0, .int 0, .int 0, .int 0, .int 0, .int 0, .int 0, .int 0, .ref g1, .ref g2, .ref g3])] [(nw, eO 5 [.ref n0, .int 0, .int 0, .ref n1, .ref n2, .ref n3]), (n0, eO 7 [.int 0, .int (-1)])] [0, 1] [2, 3] := ⟨rfl, rfl, rfl, rfl, by decide⟩
  refine contx_V C hnt hP hD hS ct_1 (fun E h => ⟨h.1, fun h9 => h.2 h9.1⟩) (by decide) (by decide) (runx_V (As := [.int b]) (rest := []) C hP hD hS ct_1 (x_bill l D ty h0 rd ho nw tr ts im g1 g2 g3 b hl9) kV_PinchedBill_119 0 rfl rfl rfl rfl hl.1 rfl (nle rfl) d_X8_goes_2 ⟨by decide, by decide, by decide, by decide⟩) (fun w_4 H locs hw_2 hP hD hS => ?_)
  obtain ⟨hbb_5, rfl⟩ := hw_2
  have hP : va_P D vwCl [(nw, eO 5 [.ref n0, .int 0, .int 0, .ref n1, .ref n2, .ref n3]), (n0, eO 7 [.int 0, .int (-1)]), (h0, eO 8 [.ref rd, .ref ho, .ref nw, .ref tr, .ref ts, .ref im, .null]), (ho, eO 0 [.int 0, .int 1, .int 0, .int 0, .int 0, .int 0, .int 0, .int 0, .int 0, .int 0, .ref g1, .ref g2, .ref g3])] H := hP
  have hD : va_D A [(nw, eO 5 [.ref n0, .int 0, .int 0, .ref n1, .ref n2, .ref n3]), (n0, eO 7 [.int 0, .int (-1)]), (h0, eO 8 [.ref rd, .ref ho, .ref nw, .ref tr, .ref ts, .ref im, .null]), (ho, eO 0 [.int 0, .int 1, .int 0, .int 0, .int 0, .int 0, .int 0, .int 0, .int 0, .int 0, .ref g1, .ref g2, .ref g3])] := hD
  obtain ⟨jb, hj_6, rfl⟩ := bB_of hbb_5
  refine lv_iload_n hx hb d_X8_goes_5 rfl (lv_at hl 2 rfl) ?_
  refine lv_iconst (v := 0) hx hb d_X8_goes_6 (by decide) ?_
  refine lv_sipush (v := 9999) hx hb d_X8_goes_7 (by decide) ?_
  have ct_7 : Cut [(nw, eO 5 [.ref n0, .int 0, .int 0, .ref n1, .ref n2, .ref n3]), (n0, eO 7 [.int 0, .int (-1)]), (h0, eO 8 [.ref rd, .ref ho, .ref nw, .ref tr, .ref ts, .ref im, .null]), (ho, eO 0 [.int 0, .int 1, .int 0, .int 0, .int 0, .int 0, .int 0, .int 0, .int 0, .int 0, .ref g1, .ref g2, .ref g3])] [] [(nw, eO 5 [.ref n0, .int 0, .int 0, .ref n1, .ref n2, .ref n3]), (n0, eO 7 [.int 0, .int (-1)]), (h0, eO 8 [.ref rd, .ref ho, .ref nw, .ref tr, .ref ts, .ref im, .null]), (ho, eO 0 [.int 0, .int 1, .int 0, .int 0, .int 0, .int 0, .int 0, .int 0, .int 0, .int 0, .ref g1, .ref g2, .ref g3])] [] [0, 1, 2, 3] := ⟨rfl, rfl, rfl, rfl, by decide⟩
  refine contx_V C hnt hP hD hS ct_7 (fun E h => ⟨h.1, fun h9 => h.2 h9.2⟩) (by decide) (by decide) (runx_S (As := [.int n, .int 0, .int 9999]) (rest := []) C hP hD hS ct_7 (x_within l D ty n 0 9999 hl9) kS_PinchedBill_53 rfl hl.1 rfl (nle rfl) d_X8_goes_10 ⟨by decide, by decide, by decide, by decide⟩) (fun w_10 H locs hw_8 hP hD hS => ?_)
  obtain ⟨hwi_11, rfl⟩ := hw_8
  have hP : va_P D vwCl [(nw, eO 5 [.ref n0, .int 0, .int 0, .ref n1, .ref n2, .ref n3]), (n0, eO 7 [.int 0, .int (-1)]), (h0, eO 8 [.ref rd, .ref ho, .ref nw, .ref tr, .ref ts, .ref im, .null]), (ho, eO 0 [.int 0, .int 1, .int 0, .int 0, .int 0, .int 0, .int 0, .int 0, .int 0, .int 0, .ref g1, .ref g2, .ref g3])] H := hP
  have hD : va_D A [(nw, eO 5 [.ref n0, .int 0, .int 0, .ref n1, .ref n2, .ref n3]), (n0, eO 7 [.int 0, .int (-1)]), (h0, eO 8 [.ref rd, .ref ho, .ref nw, .ref tr, .ref ts, .ref im, .null]), (ho, eO 0 [.int 0, .int 1, .int 0, .int 0, .int 0, .int 0, .int 0, .int 0, .int 0, .int 0, .ref g1, .ref g2, .ref g3])] := hD
  refine lv_aload_n hx hb d_X8_goes_13 rfl (lv_at hl 0 rfl) ?_
  have ct_12 : Cut [(nw, eO 5 [.ref n0, .int 0, .int 0, .ref n1, .ref n2, .ref n3]), (n0, eO 7 [.int 0, .int (-1)]), (h0, eO 8 [.ref rd, .ref ho, .ref nw, .ref tr, .ref ts, .ref im, .null]), (ho, eO 0 [.int 0, .int 1, .int 0, .int 0, .int 0, .int 0, .int 0, .int 0, .int 0, .int 0, .ref g1, .ref g2, .ref g3])] [(h0, eO 8 [.ref rd, .ref ho, .ref nw, .ref tr, .ref ts, .ref im, .null]), (ho, eO 0 [.int 0, .int 1, .int 0, .int 0, .int 0, .int 0, .int 0, .int 0, .int 0, .int 0, .ref g1, .ref g2, .ref g3])] [(nw, eO 5 [.ref n0, .int 0, .int 0, .ref n1, .ref n2, .ref n3]), (n0, eO 7 [.int 0, .int (-1)])] [2, 3] [0, 1] := ⟨rfl, rfl, rfl, rfl, by decide⟩
  refine cont_R C hP hD hS ct_12 (run_V (As := []) (rest := []) C hP hD hS ct_12 (c_reckoned l D ty h0 rd ho nw tr ts im g1 g2 g3) kV_PinchedBill_184 2 rfl rfl rfl rfl hl.1 rfl (nle rfl) d_X8_goes_14 ⟨by decide, by decide, by decide, by decide⟩) (fun r_29 w_30 H locs hw_28 hP hD hS => ?_)
  obtain ⟨rk_13, lw_14, l1_15, l2_16, l3_17, l4_18, w1_19, w2_20, m1_21, m2_22, m3_23, m4_24, m5_25, m6_26, m7_27, rfl, rfl⟩ := hw_28
  have hP : va_P D vwCl [(nw, eO 5 [.ref n0, .int 0, .int 0, .ref n1, .ref n2, .ref n3]), (n0, eO 7 [.int 0, .int (-1)]), (h0, eO 8 [.ref rd, .ref ho, .ref nw, .ref tr, .ref ts, .ref im, .ref rk_13]), (ho, eO 0 [.int 0, .int 1, .int 0, .int 0, .int 0, .int 0, .int 0, .int 0, .int 0, .int 0, .ref g1, .ref g2, .ref g3]), (rk_13, eO 4 [.ref lw_14, .ref w1_19, .ref w2_20, .int 0, .int 0, .int 0, .ref ho, .ref m1_21, .int 1, .ref m2_22, .ref m3_23, .int (-1), .ref m4_24, .int (-1), .ref m5_25, .ref m6_26, .ref m7_27, .int 0]), (lw_14, eO 2 [.ref ho, .ref l1_15, .ref l2_16, .ref l3_17, .ref l4_18]), (l1_15, eI (ty 0) 1000 (fun _ => 0)), (l2_16, eI (ty 0) 8000 (fun _ => 0)), (l3_17, eI (ty 0) 8 (fun _ => 0)), (l4_18, eI (ty 0) 64 (fun _ => 0)), (w1_19, eO 7 [.int 0, .int (-1)]), (w2_20, eO 7 [.int 0, .int (-1)]), (m1_21, eI (ty 0) 9000 (fun _ => 0)), (m2_22, eI (ty 0) 1000 (fun _ => 0)), (m3_23, eI (ty 0) 1000 (fun _ => 0)), (m4_24, eI (ty 0) 256 (fun _ => 0)), (m5_25, eI (ty 0) 8 (fun _ => 0)), (m6_26, eI (ty 0) 1000 (fun _ => 0)), (m7_27, eI (ty 0) 1000 (fun _ => 0))] H := hP
  have hD : va_D A [(nw, eO 5 [.ref n0, .int 0, .int 0, .ref n1, .ref n2, .ref n3]), (n0, eO 7 [.int 0, .int (-1)]), (h0, eO 8 [.ref rd, .ref ho, .ref nw, .ref tr, .ref ts, .ref im, .ref rk_13]), (ho, eO 0 [.int 0, .int 1, .int 0, .int 0, .int 0, .int 0, .int 0, .int 0, .int 0, .int 0, .ref g1, .ref g2, .ref g3]), (rk_13, eO 4 [.ref lw_14, .ref w1_19, .ref w2_20, .int 0, .int 0, .int 0, .ref ho, .ref m1_21, .int 1, .ref m2_22, .ref m3_23, .int (-1), .ref m4_24, .int (-1), .ref m5_25, .ref m6_26, .ref m7_27, .int 0]), (lw_14, eO 2 [.ref ho, .ref l1_15, .ref l2_16, .ref l3_17, .ref l4_18]), (l1_15, eI (ty 0) 1000 (fun _ => 0)), (l2_16, eI (ty 0) 8000 (fun _ => 0)), (l3_17, eI (ty 0) 8 (fun _ => 0)), (l4_18, eI (ty 0) 64 (fun _ => 0)), (w1_19, eO 7 [.int 0, .int (-1)]), (w2_20, eO 7 [.int 0, .int (-1)]), (m1_21, eI (ty 0) 9000 (fun _ => 0)), (m2_22, eI (ty 0) 1000 (fun _ => 0)), (m3_23, eI (ty 0) 1000 (fun _ => 0)), (m4_24, eI (ty 0) 256 (fun _ => 0)), (m5_25, eI (ty 0) 8 (fun _ => 0)), (m6_26, eI (ty 0) 1000 (fun _ => 0)), (m7_27, eI (ty 0) 1000 (fun _ => 0))] := hD
  refine lv_iload_n hx hb d_X8_goes_17 rfl (lv_at hl 1 rfl) ?_
  refine lv_iload_n hx hb d_X8_goes_18 rfl (lv_at hl 2 rfl) ?_
  refine lv_aload_n hx hb d_X8_goes_19 rfl (lv_at hl 0 rfl) ?_
  refine r_get (v := .ref nw) C hP 2 rfl rfl lay_X8 2 (by decide) k_322 rfl d_X8_goes_20 ?_
  refine r_get (v := .int 0) C hP 0 rfl rfl lay_X5 1 (by decide) k_297 rfl d_X8_goes_23 ?_
  have ct_31 : Cut [(nw, eO 5 [.ref n0, .int 0, .int 0, .ref n1, .ref n2, .ref n3]), (n0, eO 7 [.int 0, .int (-1)]), (h0, eO 8 [.ref rd, .ref ho, .ref nw, .ref tr, .ref ts, .ref im, .ref rk_13]), (ho, eO 0 [.int 0, .int 1, .int 0, .int 0, .int 0, .int 0, .int 0, .int 0, .int 0, .int 0, .ref g1, .ref g2, .ref g3]), (rk_13, eO 4 [.ref lw_14, .ref w1_19, .ref w2_20, .int 0, .int 0, .int 0, .ref ho, .ref m1_21, .int 1, .ref m2_22, .ref m3_23, .int (-1), .ref m4_24, .int (-1), .ref m5_25, .ref m6_26, .ref m7_27, .int 0]), (lw_14, eO 2 [.ref ho, .ref l1_15, .ref l2_16, .ref l3_17, .ref l4_18]), (l1_15, eI (ty 0) 1000 (fun _ => 0)), (l2_16, eI (ty 0) 8000 (fun _ => 0)), (l3_17, eI (ty 0) 8 (fun _ => 0)), (l4_18, eI (ty 0) 64 (fun _ => 0)), (w1_19, eO 7 [.int 0, .int (-1)]), (w2_20, eO 7 [.int 0, .int (-1)]), (m1_21, eI (ty 0) 9000 (fun _ => 0)), (m2_22, eI (ty 0) 1000 (fun _ => 0)), (m3_23, eI (ty 0) 1000 (fun _ => 0)), (m4_24, eI (ty 0) 256 (fun _ => 0)), (m5_25, eI (ty 0) 8 (fun _ => 0)), (m6_26, eI (ty 0) 1000 (fun _ => 0)), (m7_27, eI (ty 0) 1000 (fun _ => 0))] [(rk_13, eO 4 [.ref lw_14, .ref w1_19, .ref w2_20, .int 0, .int 0, .int 0, .ref ho, .ref m1_21, .int 1, .ref m2_22, .ref m3_23, .int (-1), .ref m4_24, .int (-1), .ref m5_25, .ref m6_26, .ref m7_27, .int 0]), (lw_14, eO 2 [.ref ho, .ref l1_15, .ref l2_16, .ref l3_17, .ref l4_18]), (ho, eO 0 [.int 0, .int 1, .int 0, .int 0, .int 0, .int 0, .int 0, .int 0, .int 0, .int 0, .ref g1, .ref g2, .ref g3]), (l1_15, eI (ty 0) 1000 (fun _ => 0)), (l3_17, eI (ty 0) 8 (fun _ => 0)), (w1_19, eO 7 [.int 0, .int (-1)])] [(nw, eO 5 [.ref n0, .int 0, .int 0, .ref n1, .ref n2, .ref n3]), (n0, eO 7 [.int 0, .int (-1)]), (h0, eO 8 [.ref rd, .ref ho, .ref nw, .ref tr, .ref ts, .ref im, .ref rk_13]), (l2_16, eI (ty 0) 8000 (fun _ => 0)), (l4_18, eI (ty 0) 64 (fun _ => 0)), (w2_20, eO 7 [.int 0, .int (-1)]), (m1_21, eI (ty 0) 9000 (fun _ => 0)), (m2_22, eI (ty 0) 1000 (fun _ => 0)), (m3_23, eI (ty 0) 1000 (fun _ => 0)), (m4_24, eI (ty 0) 256 (fun _ => 0)), (m5_25, eI (ty 0) 8 (fun _ => 0)), (m6_26, eI (ty 0) 1000 (fun _ => 0)), (m7_27, eI (ty 0) 1000 (fun _ => 0))] [4, 5, 3, 6, 8, 10] [0, 1, 2, 7, 9, 11, 12, 13, 14, 15, 16, 17, 18] := ⟨rfl, rfl, rfl, rfl, by decide⟩
  refine cont_I C hP hD hS ct_31 (run_V (As := [.int (nI (100 * jb)), .int n, .int 0]) (rest := []) C hP hD hS ct_31 (c_billIn l D ty rk_13 ho lw_14 l1_15 l2_16 l3_17 l4_18 w1_19 w2_20 m1_21 m2_22 m3_23 m4_24 m5_25 m6_26 m7_27 g1 g2 g3 0 0 0 (-1) (-1) 0 1 0 (-1) (fun _ => 0) (fun _ => 0) (100 * jb) n (by omega) B01_0) kV_PinchedBill_188 4 rfl rfl rfl rfl hl.1 rfl (nle rfl) d_X8_goes_26 ⟨by decide, by decide, by decide, by decide⟩) (fun r_35 w_36 H locs hw_34 hP hD hS => ?_)
  obtain ⟨f9_32, v9_33, hf9_37, rfl, rfl⟩ := hw_34
  have hP : va_P D vwCl [(nw, eO 5 [.ref n0, .int 0, .int 0, .ref n1, .ref n2, .ref n3]), (n0, eO 7 [.int 0, .int (-1)]), (h0, eO 8 [.ref rd, .ref ho, .ref nw, .ref tr, .ref ts, .ref im, .ref rk_13]), (l2_16, eI (ty 0) 8000 (fun _ => 0)), (l4_18, eI (ty 0) 64 (fun _ => 0)), (w2_20, eO 7 [.int 0, .int (-1)]), (m1_21, eI (ty 0) 9000 (fun _ => 0)), (m2_22, eI (ty 0) 1000 (fun _ => 0)), (m3_23, eI (ty 0) 1000 (fun _ => 0)), (m4_24, eI (ty 0) 256 (fun _ => 0)), (m5_25, eI (ty 0) 8 (fun _ => 0)), (m6_26, eI (ty 0) 1000 (fun _ => 0)), (m7_27, eI (ty 0) 1000 (fun _ => 0)), (rk_13, eO 4 [.ref lw_14, .ref w1_19, .ref w2_20, .int 0, .int 0, .int 0, .ref ho, .ref m1_21, .int 1, .ref m2_22, .ref m3_23, .int (-1), .ref m4_24, .int (-1), .ref m5_25, .ref m6_26, .ref m7_27, .int 0]), (lw_14, eO 2 [.ref ho, .ref l1_15, .ref l2_16, .ref l3_17, .ref l4_18]), (ho, eO 0 [.int 0, .int 1, .int 0, .int 0, .int 0, .int 0, .int 0, .int 0, .int 0, .int 0, .ref g1, .ref g2, .ref g3]), (l1_15, eI (ty 0) 1000 f9_32), (l3_17, eI (ty 0) 8 v9_33), (w1_19, eO 7 [.int (nI (100 * jb)), .int (-1)])] H := hP
  have hD : va_D A [(nw, eO 5 [.ref n0, .int 0, .int 0, .ref n1, .ref n2, .ref n3]), (n0, eO 7 [.int 0, .int (-1)]), (h0, eO 8 [.ref rd, .ref ho, .ref nw, .ref tr, .ref ts, .ref im, .ref rk_13]), (l2_16, eI (ty 0) 8000 (fun _ => 0)), (l4_18, eI (ty 0) 64 (fun _ => 0)), (w2_20, eO 7 [.int 0, .int (-1)]), (m1_21, eI (ty 0) 9000 (fun _ => 0)), (m2_22, eI (ty 0) 1000 (fun _ => 0)), (m3_23, eI (ty 0) 1000 (fun _ => 0)), (m4_24, eI (ty 0) 256 (fun _ => 0)), (m5_25, eI (ty 0) 8 (fun _ => 0)), (m6_26, eI (ty 0) 1000 (fun _ => 0)), (m7_27, eI (ty 0) 1000 (fun _ => 0)), (rk_13, eO 4 [.ref lw_14, .ref w1_19, .ref w2_20, .int 0, .int 0, .int 0, .ref ho, .ref m1_21, .int 1, .ref m2_22, .ref m3_23, .int (-1), .ref m4_24, .int (-1), .ref m5_25, .ref m6_26, .ref m7_27, .int 0]), (lw_14, eO 2 [.ref ho, .ref l1_15, .ref l2_16, .ref l3_17, .ref l4_18]), (ho, eO 0 [.int 0, .int 1, .int 0, .int 0, .int 0, .int 0, .int 0, .int 0, .int 0, .int 0, .ref g1, .ref g2, .ref g3]), (l1_15, eI (ty 0) 1000 f9_32), (l3_17, eI (ty 0) 8 v9_33), (w1_19, eO 7 [.int (nI (100 * jb)), .int (-1)])] := hD
  exact vx_ret (ret_I (w := []) C hP hD hS [] rfl rfl ⟨⟨hbb_5, hwi_11⟩, rfl, rfl⟩ (by decide) (by decide) d_X8_goes_29)
set_option maxHeartbeats 4000000 in
set_option maxRecDepth 100000 in
theorem p_ring (l : Launch) (D : va_G) (ty : Nat → ClassId) (h0 : Nat) (rd : Nat) (ho : Nat) (nw : Nat) (tr : Nat) (ts : Nat) (im : Nat) (g1 : Nat) (g2 : Nat) (g3 : Nat) (n0 : Nat) (n1 : Nat) (n2 : Nat) (n3 : Nat) (b : Int32) (wh : Int32) (hl9 : l.stackTraces = false) : CX l D ty ⟨"PinchedBill", "ring", "(II)I"⟩ prog_1_method_22_code 6 (some .int) 7 137 17 22375 [.ref h0, .int b, .int wh] [(h0, eO 8 [.ref rd, .ref ho, .ref nw, .ref tr, .ref ts, .ref im, .null]), (ho, eO 0 [.int 0, .int 1, .int 0, .int 0, .int 0, .int 0, .int 0, .int 0, .int 0, .int 0, .ref g1, .ref g2, .ref g3]), (nw, eO 5 [.ref n0, .int 0, .int 0, .ref n1, .ref n2, .ref n3]), (n0, eO 7 [.int 0, .int (-1)])] (QI D ty (fun (r : Int32) (w : va_W) => ((bB b = 1) ∧ (wh = 0 ∨ wh = 1 ∨ (¬ wh < 10 ∧ ¬ 19 < wh))) ∧ (-1) = r ∧ w = [])) (fun E => E = "java/lang/IllegalArgumentException" ∧ ¬ ((bB b = 1) ∧ (wh = 0 ∨ wh = 1 ∨ (¬ wh < 10 ∧ ¬ 19 < wh)))) := by
  refine CX_of (by decide) ?_
  intro p e s m below meth c A C hnt hP hD hS
  obtain ⟨⟨hx, hb, hml, hown, hts⟩, hr, hlocks, hnm, hK, hE, hA, hZ⟩ := id C
  refine startW [.ref h0, .int b, .int wh] 6 (nle rfl) (lv := [(0, .ref h0), (1, .int b), (2, .int wh)]) rfl (fun ls hl => ?_)
  refine lv_aload_n hx hb d_X8_ring_0 rfl (lv_at hl 0 rfl) ?_
  refine lv_iload_n hx hb d_X8_ring_1 rfl (lv_at hl 1 rfl) ?_
  have ct_1 : Cut [(h0, eO 8 [.ref rd, .ref ho, .ref nw, .ref tr, .ref ts, .ref im, .null]), (ho, eO 0 [.int 0, .int 1, .int 0, .int 0, .int 0, .int 0, .int 0, .int 0, .int 0, .int 0, .ref g1, .ref g2, .ref g3]), (nw, eO 5 [.ref n0, .int 0, .int 0, .ref n1, .ref n2, .ref n3]), (n0, eO 7 [.int 0, .int (-1)])] [(h0, eO 8 [.ref rd, .ref ho, .ref nw, .ref tr, .ref ts, .ref im, .null]), (ho, eO 0 [.int 0, .int 1, .int 0, .int 0, .int 0, .int 0, .int 0, .int 0, .int 0, .int 0, .ref g1, .ref g2, .ref g3])] [(nw, eO 5 [.ref n0, .int 0, .int 0, .ref n1, .ref n2, .ref n3]), (n0, eO 7 [.int 0, .int (-1)])] [0, 1] [2, 3] := ⟨rfl, rfl, rfl, rfl, by decide⟩
  refine contx_V C hnt hP hD hS ct_1 (fun E h => ⟨h.1, fun h9 => h.2 h9.1⟩) (by decide) (by decide) (runx_V (As := [.int b]) (rest := []) C hP hD hS ct_1 (x_bill l D ty h0 rd ho nw tr ts im g1 g2 g3 b hl9) kV_PinchedBill_119 0 rfl rfl rfl rfl hl.1 rfl (nle rfl) d_X8_ring_2 ⟨by decide, by decide, by decide, by decide⟩) (fun w_4 H locs hw_2 hP hD hS => ?_)
  obtain ⟨hbb_5, rfl⟩ := hw_2
  have hP : va_P D vwCl [(nw, eO 5 [.ref n0, .int 0, .int 0, .ref n1, .ref n2, .ref n3]), (n0, eO 7 [.int 0, .int (-1)]), (h0, eO 8 [.ref rd, .ref ho, .ref nw, .ref tr, .ref ts, .ref im, .null]), (ho, eO 0 [.int 0, .int 1, .int 0, .int 0, .int 0, .int 0, .int 0, .int 0, .int 0, .int 0, .ref g1, .ref g2, .ref g3])] H := hP
  have hD : va_D A [(nw, eO 5 [.ref n0, .int 0, .int 0, .ref n1, .ref n2, .ref n3]), (n0, eO 7 [.int 0, .int (-1)]), (h0, eO 8 [.ref rd, .ref ho, .ref nw, .ref tr, .ref ts, .ref im, .null]), (ho, eO 0 [.int 0, .int 1, .int 0, .int 0, .int 0, .int 0, .int 0, .int 0, .int 0, .int 0, .ref g1, .ref g2, .ref g3])] := hD
  obtain ⟨jb, hj_6, rfl⟩ := bB_of hbb_5
  refine lv_iload_n hx hb d_X8_ring_5 rfl (lv_at hl 2 rfl) ?_
  refine lv_if_eq (tgt := 22) hx hb d_X8_ring_6 (by decide) (fun hc_7 => ?_) (fun hc_7 => ?_)
  · refine lv_aload_n hx hb d_X8_ring_22 rfl (lv_at hl 0 rfl) ?_
    refine lv_iload_n hx hb d_X8_ring_23 rfl (lv_at hl 1 rfl) ?_
    have ct_8 : Cut [(nw, eO 5 [.ref n0, .int 0, .int 0, .ref n1, .ref n2, .ref n3]), (n0, eO 7 [.int 0, .int (-1)]), (h0, eO 8 [.ref rd, .ref ho, .ref nw, .ref tr, .ref ts, .ref im, .null]), (ho, eO 0 [.int 0, .int 1, .int 0, .int 0, .int 0, .int 0, .int 0, .int 0, .int 0, .int 0, .ref g1, .ref g2, .ref g3])] [(h0, eO 8 [.ref rd, .ref ho, .ref nw, .ref tr, .ref ts, .ref im, .null]), (ho, eO 0 [.int 0, .int 1, .int 0, .int 0, .int 0, .int 0, .int 0, .int 0, .int 0, .int 0, .ref g1, .ref g2, .ref g3]), (nw, eO 5 [.ref n0, .int 0, .int 0, .ref n1, .ref n2, .ref n3])] [(n0, eO 7 [.int 0, .int (-1)])] [2, 3, 0] [1] := ⟨rfl, rfl, rfl, rfl, by decide⟩
    refine cont_R C hP hD hS ct_8 (run_V (As := [.int (nI (100 * jb))]) (rest := []) C hP hD hS ct_8 (c_traced l D ty h0 rd ho nw tr ts im g1 g2 g3 n0 n1 n2 n3 (100 * jb) (by omega)) kV_PinchedBill_172 2 rfl rfl rfl rfl hl.1 rfl (nle rfl) d_X8_ring_24 ⟨by decide, by decide, by decide, by decide⟩) (fun r_27 w_28 H locs hw_26 hP hD hS => ?_)
    obtain ⟨rk_9, lw_10, l1_11, l2_12, l3_13, l4_14, w1_15, w2_16, m1_17, m2_18, m3_19, m4_20, m5_21, m6_22, m7_23, f9_24, v9_25, rfl, rfl⟩ := hw_26
    have hP : va_P D vwCl [(n0, eO 7 [.int 0, .int (-1)]), (h0, eO 8 [.ref rd, .ref ho, .ref nw, .ref tr, .ref ts, .ref im, .ref rk_9]), (ho, eO 0 [.int 0, .int 1, .int 0, .int 0, .int 0, .int 0, .int 0, .int 0, .int 0, .int 0, .ref g1, .ref g2, .ref g3]), (nw, eO 5 [.ref n0, .int 0, .int 0, .ref n1, .ref n2, .ref n3]), (rk_9, eO 4 [.ref lw_10, .ref w1_15, .ref w2_16, .int (nI (100 * jb)), .int 0, .int 0, .ref ho, .ref m1_17, .int 9002, .ref m2_18, .ref m3_19, .int (-1), .ref m4_20, .int (-1), .ref m5_21, .ref m6_22, .ref m7_23, .int 0]), (lw_10, eO 2 [.ref ho, .ref l1_11, .ref l2_12, .ref l3_13, .ref l4_14]), (l1_11, eI (ty 0) 1000 f9_24), (l3_13, eI (ty 0) 8 v9_25), (w1_15, eO 7 [.int (nI (100 * jb)), .int (-1)]), (m5_21, eI (ty 0) 8 (fun _ => 0))] H := hP
    have hD : va_D A [(n0, eO 7 [.int 0, .int (-1)]), (h0, eO 8 [.ref rd, .ref ho, .ref nw, .ref tr, .ref ts, .ref im, .ref rk_9]), (ho, eO 0 [.int 0, .int 1, .int 0, .int 0, .int 0, .int 0, .int 0, .int 0, .int 0, .int 0, .ref g1, .ref g2, .ref g3]), (nw, eO 5 [.ref n0, .int 0, .int 0, .ref n1, .ref n2, .ref n3]), (rk_9, eO 4 [.ref lw_10, .ref w1_15, .ref w2_16, .int (nI (100 * jb)), .int 0, .int 0, .ref ho, .ref m1_17, .int 9002, .ref m2_18, .ref m3_19, .int (-1), .ref m4_20, .int (-1), .ref m5_21, .ref m6_22, .ref m7_23, .int 0]), (lw_10, eO 2 [.ref ho, .ref l1_11, .ref l2_12, .ref l3_13, .ref l4_14]), (l1_11, eI (ty 0) 1000 f9_24), (l3_13, eI (ty 0) 8 v9_25), (w1_15, eO 7 [.int (nI (100 * jb)), .int (-1)]), (m5_21, eI (ty 0) 8 (fun _ => 0))] := hD
    refine lv_astore_n (lv' := [(3, .ref rk_9), (0, .ref h0), (1, .int (nI (100 * jb))), (2, .int wh)]) hx hb d_X8_ring_27 rfl hl (by decide) rfl (fun ls hl => ?_)
    refine lv_aload_n hx hb d_X8_ring_28 rfl (lv_at hl 0 rfl) ?_
    refine r_get (v := .int (nI (100 * jb))) C hP 4 rfl rfl lay_X4 3 (by decide) k_411 rfl d_X8_ring_29 ?_
    refine lv_iconst (v := (-1)) hx hb d_X8_ring_32 (by decide) ?_
    refine b_icmp_eqF C 38 d_X8_ring_33 (by decide) (n_neneg (100 * jb) rfl (by omega) (by decide)) ?_
    refine lv_iconst (v := (-1)) hx hb d_X8_ring_36 (by decide) ?_
    exact vx_ret (ret_I (w := []) C hP hD hS [] rfl rfl ⟨⟨hbb_5, Or.inl hc_7⟩, rfl, rfl⟩ (by decide) (by decide) d_X8_ring_37)
  · refine lv_iload_n hx hb d_X8_ring_9 rfl (lv_at hl 2 rfl) ?_
    refine lv_iconst (v := 1) hx hb d_X8_ring_10 (by decide) ?_
    refine lv_icmp_eq (tgt := 22) hx hb d_X8_ring_11 (by decide) (fun hc_29 => ?_) (fun hc_29 => ?_)
    · refine lv_aload_n hx hb d_X8_ring_22 rfl (lv_at hl 0 rfl) ?_
      refine lv_iload_n hx hb d_X8_ring_23 rfl (lv_at hl 1 rfl) ?_
      have ct_30 : Cut [(nw, eO 5 [.ref n0, .int 0, .int 0, .ref n1, .ref n2, .ref n3]), (n0, eO 7 [.int 0, .int (-1)]), (h0, eO 8 [.ref rd, .ref ho, .ref nw, .ref tr, .ref ts, .ref im, .null]), (ho, eO 0 [.int 0, .int 1, .int 0, .int 0, .int 0, .int 0, .int 0, .int 0, .int 0, .int 0, .ref g1, .ref g2, .ref g3])] [(h0, eO 8 [.ref rd, .ref ho, .ref nw, .ref tr, .ref ts, .ref im, .null]), (ho, eO 0 [.int 0, .int 1, .int 0, .int 0, .int 0, .int 0, .int 0, .int 0, .int 0, .int 0, .ref g1, .ref g2, .ref g3]), (nw, eO 5 [.ref n0, .int 0, .int 0, .ref n1, .ref n2, .ref n3])] [(n0, eO 7 [.int 0, .int (-1)])] [2, 3, 0] [1] := ⟨rfl, rfl, rfl, rfl, by decide⟩
      refine cont_R C hP hD hS ct_30 (run_V (As := [.int (nI (100 * jb))]) (rest := []) C hP hD hS ct_30 (c_traced l D ty h0 rd ho nw tr ts im g1 g2 g3 n0 n1 n2 n3 (100 * jb) (by omega)) kV_PinchedBill_172 2 rfl rfl rfl rfl hl.1 rfl (nle rfl) d_X8_ring_24 ⟨by decide, by decide, by decide, by decide⟩) (fun r_49 w_50 H locs hw_48 hP hD hS => ?_)
      obtain ⟨rk_31, lw_32, l1_33, l2_34, l3_35, l4_36, w1_37, w2_38, m1_39, m2_40, m3_41, m4_42, m5_43, m6_44, m7_45, f9_46, v9_47, rfl, rfl⟩ := hw_48
      have hP : va_P D vwCl [(n0, eO 7 [.int 0, .int (-1)]), (h0, eO 8 [.ref rd, .ref ho, .ref nw, .ref tr, .ref ts, .ref im, .ref rk_31]), (ho, eO 0 [.int 0, .int 1, .int 0, .int 0, .int 0, .int 0, .int 0, .int 0, .int 0, .int 0, .ref g1, .ref g2, .ref g3]), (nw, eO 5 [.ref n0, .int 0, .int 0, .ref n1, .ref n2, .ref n3]), (rk_31, eO 4 [.ref lw_32, .ref w1_37, .ref w2_38, .int (nI (100 * jb)), .int 0, .int 0, .ref ho, .ref m1_39, .int 9002, .ref m2_40, .ref m3_41, .int (-1), .ref m4_42, .int (-1), .ref m5_43, .ref m6_44, .ref m7_45, .int 0]), (lw_32, eO 2 [.ref ho, .ref l1_33, .ref l2_34, .ref l3_35, .ref l4_36]), (l1_33, eI (ty 0) 1000 f9_46), (l3_35, eI (ty 0) 8 v9_47), (w1_37, eO 7 [.int (nI (100 * jb)), .int (-1)]), (m5_43, eI (ty 0) 8 (fun _ => 0))] H := hP
      have hD : va_D A [(n0, eO 7 [.int 0, .int (-1)]), (h0, eO 8 [.ref rd, .ref ho, .ref nw, .ref tr, .ref ts, .ref im, .ref rk_31]), (ho, eO 0 [.int 0, .int 1, .int 0, .int 0, .int 0, .int 0, .int 0, .int 0, .int 0, .int 0, .ref g1, .ref g2, .ref g3]), (nw, eO 5 [.ref n0, .int 0, .int 0, .ref n1, .ref n2, .ref n3]), (rk_31, eO 4 [.ref lw_32, .ref w1_37, .ref w2_38, .int (nI (100 * jb)), .int 0, .int 0, .ref ho, .ref m1_39, .int 9002, .ref m2_40, .ref m3_41, .int (-1), .ref m4_42, .int (-1), .ref m5_43, .ref m6_44, .ref m7_45, .int 0]), (lw_32, eO 2 [.ref ho, .ref l1_33, .ref l2_34, .ref l3_35, .ref l4_36]), (l1_33, eI (ty 0) 1000 f9_46), (l3_35, eI (ty 0) 8 v9_47), (w1_37, eO 7 [.int (nI (100 * jb)), .int (-1)]), (m5_43, eI (ty 0) 8 (fun _ => 0))] := hD
      refine lv_astore_n (lv' := [(3, .ref rk_31), (0, .ref h0), (1, .int (nI (100 * jb))), (2, .int wh)]) hx hb d_X8_ring_27 rfl hl (by decide) rfl (fun ls hl => ?_)
      refine lv_aload_n hx hb d_X8_ring_28 rfl (lv_at hl 0 rfl) ?_
      refine r_get (v := .int (nI (100 * jb))) C hP 4 rfl rfl lay_X4 3 (by decide) k_411 rfl d_X8_ring_29 ?_
      refine lv_iconst (v := (-1)) hx hb d_X8_ring_32 (by decide) ?_
      refine b_icmp_eqF C 38 d_X8_ring_33 (by decide) (n_neneg (100 * jb) rfl (by omega) (by decide)) ?_
      refine lv_iconst (v := (-1)) hx hb d_X8_ring_36 (by decide) ?_
      exact vx_ret (ret_I (w := []) C hP hD hS [] rfl rfl ⟨⟨hbb_5, Or.inr (Or.inl hc_29)⟩, rfl, rfl⟩ (by decide) (by decide) d_X8_ring_37)
    · refine lv_iload_n hx hb d_X8_ring_14 rfl (lv_at hl 2 rfl) ?_
      refine lv_bipush (v := 10) hx hb d_X8_ring_15 (by decide) ?_
      refine lv_bipush (v := 19) hx hb d_X8_ring_17 (by decide) ?_
      have ct_51 : Cut [(nw, eO 5 [.ref n0, .int 0, .int 0, .ref n1, .ref n2, .ref n3]), (n0, eO 7 [.int 0, .int (-1)]), (h0, eO 8 [.ref rd, .ref ho, .ref nw, .ref tr, .ref ts, .ref im, .null]), (ho, eO 0 [.int 0, .int 1, .int 0, .int 0, .int 0, .int 0, .int 0, .int 0, .int 0, .int 0, .ref g1, .ref g2, .ref g3])] [] [(nw, eO 5 [.ref n0, .int 0, .int 0, .ref n1, .ref n2, .ref n3]), (n0, eO 7 [.int 0, .int (-1)]), (h0, eO 8 [.ref rd, .ref ho, .ref nw, .ref tr, .ref ts, .ref im, .null]), (ho, eO 0 [.int 0, .int 1, .int 0, .int 0, .int 0, .int 0, .int 0, .int 0, .int 0, .int 0, .ref g1, .ref g2, .ref g3])] [] [0, 1, 2, 3] := ⟨rfl, rfl, rfl, rfl, by decide⟩
      refine contx_V C hnt hP hD hS ct_51 (fun E h => ⟨h.1, fun h9 => h.2 (h9.2.elim (fun h8 => absurd h8 hc_7) (fun h8 => h8.elim (fun h7 => absurd h7 hc_29) id))⟩) (by decide) (by decide) (runx_S (As := [.int wh, .int 10, .int 19]) (rest := []) C hP hD hS ct_51 (x_within l D ty wh 10 19 hl9) kS_PinchedBill_53 rfl hl.1 rfl (nle rfl) d_X8_ring_19 ⟨by decide, by decide, by decide, by decide⟩) (fun w_54 H locs hw_52 hP hD hS => ?_)
      obtain ⟨hwi_55, rfl⟩ := hw_52
      have hP : va_P D vwCl [(nw, eO 5 [.ref n0, .int 0, .int 0, .ref n1, .ref n2, .ref n3]), (n0, eO 7 [.int 0, .int (-1)]), (h0, eO 8 [.ref rd, .ref ho, .ref nw, .ref tr, .ref ts, .ref im, .null]), (ho, eO 0 [.int 0, .int 1, .int 0, .int 0, .int 0, .int 0, .int 0, .int 0, .int 0, .int 0, .ref g1, .ref g2, .ref g3])] H := hP
      have hD : va_D A [(nw, eO 5 [.ref n0, .int 0, .int 0, .ref n1, .ref n2, .ref n3]), (n0, eO 7 [.int 0, .int (-1)]), (h0, eO 8 [.ref rd, .ref ho, .ref nw, .ref tr, .ref ts, .ref im, .null]), (ho, eO 0 [.int 0, .int 1, .int 0, .int 0, .int 0, .int 0, .int 0, .int 0, .int 0, .int 0, .ref g1, .ref g2, .ref g3])] := hD
      refine lv_aload_n hx hb d_X8_ring_22 rfl (lv_at hl 0 rfl) ?_
      refine lv_iload_n hx hb d_X8_ring_23 rfl (lv_at hl 1 rfl) ?_
      have ct_56 : Cut [(nw, eO 5 [.ref n0, .int 0, .int 0, .ref n1, .ref n2, .ref n3]), (n0, eO 7 [.int 0, .int (-1)]), (h0, eO 8 [.ref rd, .ref ho, .ref nw, .ref tr, .ref ts, .ref im, .null]), (ho, eO 0 [.int 0, .int 1, .int 0, .int 0, .int 0, .int 0, .int 0, .int 0, .int 0, .int 0, .ref g1, .ref g2, .ref g3])] [(h0, eO 8 [.ref rd, .ref ho, .ref nw, .ref tr, .ref ts, .ref im, .null]), (ho, eO 0 [.int 0, .int 1, .int 0, .int 0, .int 0, .int 0, .int 0, .int 0, .int 0, .int 0, .ref g1, .ref g2, .ref g3]), (nw, eO 5 [.ref n0, .int 0, .int 0, .ref n1, .ref n2, .ref n3])] [(n0, eO 7 [.int 0, .int (-1)])] [2, 3, 0] [1] := ⟨rfl, rfl, rfl, rfl, by decide⟩
      refine cont_R C hP hD hS ct_56 (run_V (As := [.int (nI (100 * jb))]) (rest := []) C hP hD hS ct_56 (c_traced l D ty h0 rd ho nw tr ts im g1 g2 g3 n0 n1 n2 n3 (100 * jb) (by omega)) kV_PinchedBill_172 2 rfl rfl rfl rfl hl.1 rfl (nle rfl) d_X8_ring_24 ⟨by decide, by decide, by decide, by decide⟩) (fun r_75 w_76 H locs hw_74 hP hD hS => ?_)
      obtain ⟨rk_57, lw_58, l1_59, l2_60, l3_61, l4_62, w1_63, w2_64, m1_65, m2_66, m3_67, m4_68, m5_69, m6_70, m7_71, f9_72, v9_73, rfl, rfl⟩ := hw_74
      have hP : va_P D vwCl [(n0, eO 7 [.int 0, .int (-1)]), (h0, eO 8 [.ref rd, .ref ho, .ref nw, .ref tr, .ref ts, .ref im, .ref rk_57]), (ho, eO 0 [.int 0, .int 1, .int 0, .int 0, .int 0, .int 0, .int 0, .int 0, .int 0, .int 0, .ref g1, .ref g2, .ref g3]), (nw, eO 5 [.ref n0, .int 0, .int 0, .ref n1, .ref n2, .ref n3]), (rk_57, eO 4 [.ref lw_58, .ref w1_63, .ref w2_64, .int (nI (100 * jb)), .int 0, .int 0, .ref ho, .ref m1_65, .int 9002, .ref m2_66, .ref m3_67, .int (-1), .ref m4_68, .int (-1), .ref m5_69, .ref m6_70, .ref m7_71, .int 0]), (lw_58, eO 2 [.ref ho, .ref l1_59, .ref l2_60, .ref l3_61, .ref l4_62]), (l1_59, eI (ty 0) 1000 f9_72), (l3_61, eI (ty 0) 8 v9_73), (w1_63, eO 7 [.int (nI (100 * jb)), .int (-1)]), (m5_69, eI (ty 0) 8 (fun _ => 0))] H := hP
      have hD : va_D A [(n0, eO 7 [.int 0, .int (-1)]), (h0, eO 8 [.ref rd, .ref ho, .ref nw, .ref tr, .ref ts, .ref im, .ref rk_57]), (ho, eO 0 [.int 0, .int 1, .int 0, .int 0, .int 0, .int 0, .int 0, .int 0, .int 0, .int 0, .ref g1, .ref g2, .ref g3]), (nw, eO 5 [.ref n0, .int 0, .int 0, .ref n1, .ref n2, .ref n3]), (rk_57, eO 4 [.ref lw_58, .ref w1_63, .ref w2_64, .int (nI (100 * jb)), .int 0, .int 0, .ref ho, .ref m1_65, .int 9002, .ref m2_66, .ref m3_67, .int (-1), .ref m4_68, .int (-1), .ref m5_69, .ref m6_70, .ref m7_71, .int 0]), (lw_58, eO 2 [.ref ho, .ref l1_59, .ref l2_60, .ref l3_61, .ref l4_62]), (l1_59, eI (ty 0) 1000 f9_72), (l3_61, eI (ty 0) 8 v9_73), (w1_63, eO 7 [.int (nI (100 * jb)), .int (-1)]), (m5_69, eI (ty 0) 8 (fun _ => 0))] := hD
      refine lv_astore_n (lv' := [(3, .ref rk_57), (0, .ref h0), (1, .int (nI (100 * jb))), (2, .int wh)]) hx hb d_X8_ring_27 rfl hl (by decide) rfl (fun ls hl => ?_)
      refine lv_aload_n hx hb d_X8_ring_28 rfl (lv_at hl 0 rfl) ?_
      refine r_get (v := .int (nI (100 * jb))) C hP 4 rfl rfl lay_X4 3 (by decide) k_411 rfl d_X8_ring_29 ?_
      refine lv_iconst (v := (-1)) hx hb d_X8_ring_32 (by decide) ?_
      refine b_icmp_eqF C 38 d_X8_ring_33 (by decide) (n_neneg (100 * jb) rfl (by omega) (by decide)) ?_
      refine lv_iconst (v := (-1)) hx hb d_X8_ring_36 (by decide) ?_
      exact vx_ret (ret_I (w := []) C hP hD hS [] rfl rfl ⟨⟨hbb_5, Or.inr (Or.inr hwi_55)⟩, rfl, rfl⟩ (by decide) (by decide) d_X8_ring_37)
set_option maxHeartbeats 4000000 in
set_option maxRecDepth 100000 in
theorem c_laws (l : Launch) (D : va_G) (ty : Nat → ClassId) (h0 : Nat) (rd : Nat) (ho : Nat) (nw : Nat) (tr : Nat) (ts : Nat) (im : Nat) (g1 : Nat) (g2 : Nat) (g3 : Nat) (n0 : Nat) (n1 : Nat) (n2 : Nat) (n3 : Nat) : CC l D ty ⟨"PinchedBill", "laws", "()I"⟩ prog_1_method_23_code 1 (some .int) 5 112 15 22363 [.ref h0] [(h0, eO 8 [.ref rd, .ref ho, .ref nw, .ref tr, .ref ts, .ref im, .null]), (ho, eO 0 [.int 0, .int 1, .int 0, .int 0, .int 0, .int 0, .int 0, .int 0, .int 0, .int 0, .ref g1, .ref g2, .ref g3]), (nw, eO 5 [.ref n0, .int 0, .int 0, .ref n1, .ref n2, .ref n3]), (n0, eO 7 [.int 0, .int (-1)])] (QI D ty (fun (r : Int32) (w : va_W) => 10 = r ∧ w = [])) := by
  refine CC_of (by decide) ?_
  intro p e s m below meth c A C hP hD hS
  obtain ⟨⟨hx, hb, hml, hown, hts⟩, hr, hlocks, hnm, hK, hE, hA, hZ⟩ := id C
  refine startW [.ref h0] 1 (nle rfl) (lv := [(0, .ref h0)]) rfl (fun ls hl => ?_)
  refine lv_aload_n hx hb d_X8_laws_0 rfl (lv_at hl 0 rfl) ?_
  have ct_1 : Cut [(h0, eO 8 [.ref rd, .ref ho, .ref nw, .ref tr, .ref ts, .ref im, .null]), (ho, eO 0 [.int 0, .int 1, .int 0, .int 0, .int 0, .int 0, .int 0, .int 0, .int 0, .int 0, .ref g1, .ref g2, .ref g3]), (nw, eO 5 [.ref n0, .int 0, .int 0, .ref n1, .ref n2, .ref n3]), (n0, eO 7 [.int 0, .int (-1)])] [(h0, eO 8 [.ref rd, .ref ho, .ref nw, .ref tr, .ref ts, .ref im, .null]), (ho, eO 0 [.int 0, .int 1, .int 0, .int 0, .int 0, .int 0, .int 0, .int 0, .int 0, .int 0, .ref g1, .ref g2, .ref g3])] [(nw, eO 5 [.ref n0, .int 0, .int 0, .ref n1, .ref n2, .ref n3]), (n0, eO 7 [.int 0, .int (-1)])] [0, 1] [2, 3] := ⟨rfl, rfl, rfl, rfl, by decide⟩
  refine cont_R C hP hD hS ct_1 (run_V (As := []) (rest := []) C hP hD hS ct_1 (c_reckoned l D ty h0 rd ho nw tr ts im g1 g2 g3) kV_PinchedBill_184 0 rfl rfl rfl rfl hl.1 rfl (nle rfl) d_X8_laws_1 ⟨by decide, by decide, by decide, by decide⟩) (fun r_18 w_19 H locs hw_17 hP hD hS => ?_)
  obtain ⟨rk_2, lw_3, l1_4, l2_5, l3_6, l4_7, w1_8, w2_9, m1_10, m2_11, m3_12, m4_13, m5_14, m6_15, m7_16, rfl, rfl⟩ := hw_17
  have hP : va_P D vwCl [(nw, eO 5 [.ref n0, .int 0, .int 0, .ref n1, .ref n2, .ref n3]), (n0, eO 7 [.int 0, .int (-1)]), (h0, eO 8 [.ref rd, .ref ho, .ref nw, .ref tr, .ref ts, .ref im, .ref rk_2]), (ho, eO 0 [.int 0, .int 1, .int 0, .int 0, .int 0, .int 0, .int 0, .int 0, .int 0, .int 0, .ref g1, .ref g2, .ref g3]), (rk_2, eO 4 [.ref lw_3, .ref w1_8, .ref w2_9, .int 0, .int 0, .int 0, .ref ho, .ref m1_10, .int 1, .ref m2_11, .ref m3_12, .int (-1), .ref m4_13, .int (-1), .ref m5_14, .ref m6_15, .ref m7_16, .int 0]), (lw_3, eO 2 [.ref ho, .ref l1_4, .ref l2_5, .ref l3_6, .ref l4_7]), (l1_4, eI (ty 0) 1000 (fun _ => 0)), (l2_5, eI (ty 0) 8000 (fun _ => 0)), (l3_6, eI (ty 0) 8 (fun _ => 0)), (l4_7, eI (ty 0) 64 (fun _ => 0)), (w1_8, eO 7 [.int 0, .int (-1)]), (w2_9, eO 7 [.int 0, .int (-1)]), (m1_10, eI (ty 0) 9000 (fun _ => 0)), (m2_11, eI (ty 0) 1000 (fun _ => 0)), (m3_12, eI (ty 0) 1000 (fun _ => 0)), (m4_13, eI (ty 0) 256 (fun _ => 0)), (m5_14, eI (ty 0) 8 (fun _ => 0)), (m6_15, eI (ty 0) 1000 (fun _ => 0)), (m7_16, eI (ty 0) 1000 (fun _ => 0))] H := hP
  have hD : va_D A [(nw, eO 5 [.ref n0, .int 0, .int 0, .ref n1, .ref n2, .ref n3]), (n0, eO 7 [.int 0, .int (-1)]), (h0, eO 8 [.ref rd, .ref ho, .ref nw, .ref tr, .ref ts, .ref im, .ref rk_2]), (ho, eO 0 [.int 0, .int 1, .int 0, .int 0, .int 0, .int 0, .int 0, .int 0, .int 0, .int 0, .ref g1, .ref g2, .ref g3]), (rk_2, eO 4 [.ref lw_3, .ref w1_8, .ref w2_9, .int 0, .int 0, .int 0, .ref ho, .ref m1_10, .int 1, .ref m2_11, .ref m3_12, .int (-1), .ref m4_13, .int (-1), .ref m5_14, .ref m6_15, .ref m7_16, .int 0]), (lw_3, eO 2 [.ref ho, .ref l1_4, .ref l2_5, .ref l3_6, .ref l4_7]), (l1_4, eI (ty 0) 1000 (fun _ => 0)), (l2_5, eI (ty 0) 8000 (fun _ => 0)), (l3_6, eI (ty 0) 8 (fun _ => 0)), (l4_7, eI (ty 0) 64 (fun _ => 0)), (w1_8, eO 7 [.int 0, .int (-1)]), (w2_9, eO 7 [.int 0, .int (-1)]), (m1_10, eI (ty 0) 9000 (fun _ => 0)), (m2_11, eI (ty 0) 1000 (fun _ => 0)), (m3_12, eI (ty 0) 1000 (fun _ => 0)), (m4_13, eI (ty 0) 256 (fun _ => 0)), (m5_14, eI (ty 0) 8 (fun _ => 0)), (m6_15, eI (ty 0) 1000 (fun _ => 0)), (m7_16, eI (ty 0) 1000 (fun _ => 0))] := hD
  refine lv_aload_n hx hb d_X8_laws_4 rfl (lv_at hl 0 rfl) ?_
  refine r_get (v := .ref nw) C hP 2 rfl rfl lay_X8 2 (by decide) k_322 rfl d_X8_laws_5 ?_
  refine r_get (v := .int 0) C hP 0 rfl rfl lay_X5 1 (by decide) k_297 rfl d_X8_laws_8 ?_
  have ct_20 : Cut [(nw, eO 5 [.ref n0, .int 0, .int 0, .ref n1, .ref n2, .ref n3]), (n0, eO 7 [.int 0, .int (-1)]), (h0, eO 8 [.ref rd, .ref ho, .ref nw, .ref tr, .ref ts, .ref im, .ref rk_2]), (ho, eO 0 [.int 0, .int 1, .int 0, .int 0, .int 0, .int 0, .int 0, .int 0, .int 0, .int 0, .ref g1, .ref g2, .ref g3]), (rk_2, eO 4 [.ref lw_3, .ref w1_8, .ref w2_9, .int 0, .int 0, .int 0, .ref ho, .ref m1_10, .int 1, .ref m2_11, .ref m3_12, .int (-1), .ref m4_13, .int (-1), .ref m5_14, .ref m6_15, .ref m7_16, .int 0]), (lw_3, eO 2 [.ref ho, .ref l1_4, .ref l2_5, .ref l3_6, .ref l4_7]), (l1_4, eI (ty 0) 1000 (fun _ => 0)), (l2_5, eI (ty 0) 8000 (fun _ => 0)), (l3_6, eI (ty 0) 8 (fun _ => 0)), (l4_7, eI (ty 0) 64 (fun _ => 0)), (w1_8, eO 7 [.int 0, .int (-1)]), (w2_9, eO 7 [.int 0, .int (-1)]), (m1_10, eI (ty 0) 9000 (fun _ => 0)), (m2_11, eI (ty 0) 1000 (fun _ => 0)), (m3_12, eI (ty 0) 1000 (fun _ => 0)), (m4_13, eI (ty 0) 256 (fun _ => 0)), (m5_14, eI (ty 0) 8 (fun _ => 0)), (m6_15, eI (ty 0) 1000 (fun _ => 0)), (m7_16, eI (ty 0) 1000 (fun _ => 0))] [(rk_2, eO 4 [.ref lw_3, .ref w1_8, .ref w2_9, .int 0, .int 0, .int 0, .ref ho, .ref m1_10, .int 1, .ref m2_11, .ref m3_12, .int (-1), .ref m4_13, .int (-1), .ref m5_14, .ref m6_15, .ref m7_16, .int 0]), (lw_3, eO 2 [.ref ho, .ref l1_4, .ref l2_5, .ref l3_6, .ref l4_7]), (ho, eO 0 [.int 0, .int 1, .int 0, .int 0, .int 0, .int 0, .int 0, .int 0, .int 0, .int 0, .ref g1, .ref g2, .ref g3]), (l1_4, eI (ty 0) 1000 (fun _ => 0)), (l3_6, eI (ty 0) 8 (fun _ => 0)), (m7_16, eI (ty 0) 1000 (fun _ => 0))] [(nw, eO 5 [.ref n0, .int 0, .int 0, .ref n1, .ref n2, .ref n3]), (n0, eO 7 [.int 0, .int (-1)]), (h0, eO 8 [.ref rd, .ref ho, .ref nw, .ref tr, .ref ts, .ref im, .ref rk_2]), (l2_5, eI (ty 0) 8000 (fun _ => 0)), (l4_7, eI (ty 0) 64 (fun _ => 0)), (w1_8, eO 7 [.int 0, .int (-1)]), (w2_9, eO 7 [.int 0, .int (-1)]), (m1_10, eI (ty 0) 9000 (fun _ => 0)), (m2_11, eI (ty 0) 1000 (fun _ => 0)), (m3_12, eI (ty 0) 1000 (fun _ => 0)), (m4_13, eI (ty 0) 256 (fun _ => 0)), (m5_14, eI (ty 0) 8 (fun _ => 0)), (m6_15, eI (ty 0) 1000 (fun _ => 0))] [4, 5, 3, 6, 8, 18] [0, 1, 2, 7, 9, 10, 11, 12, 13, 14, 15, 16, 17] := ⟨rfl, rfl, rfl, rfl, by decide⟩
  refine cont_I C hP hD hS ct_20 (run_V (As := [.int 0]) (rest := []) C hP hD hS ct_20 (c_findLaws l D ty rk_2 ho lw_3 l1_4 l2_5 l3_6 l4_7 w1_8 w2_9 m1_10 m2_11 m3_12 m4_13 m5_14 m6_15 m7_16 g1 g2 g3 0 0 0 (-1) (-1) 0 1 (fun _ => 0) (fun _ => 0) (fun _ => 0) B01_0) kV_PinchedBill_195 4 rfl rfl rfl rfl hl.1 rfl (nle rfl) d_X8_laws_11 ⟨by decide, by decide, by decide, by decide⟩) (fun r_23 w_24 H locs hw_22 hP hD hS => ?_)
  obtain ⟨fo9_21, hfo9_25, rfl, rfl⟩ := hw_22
  have hP : va_P D vwCl [(nw, eO 5 [.ref n0, .int 0, .int 0, .ref n1, .ref n2, .ref n3]), (n0, eO 7 [.int 0, .int (-1)]), (h0, eO 8 [.ref rd, .ref ho, .ref nw, .ref tr, .ref ts, .ref im, .ref rk_2]), (l2_5, eI (ty 0) 8000 (fun _ => 0)), (l4_7, eI (ty 0) 64 (fun _ => 0)), (w1_8, eO 7 [.int 0, .int (-1)]), (w2_9, eO 7 [.int 0, .int (-1)]), (m1_10, eI (ty 0) 9000 (fun _ => 0)), (m2_11, eI (ty 0) 1000 (fun _ => 0)), (m3_12, eI (ty 0) 1000 (fun _ => 0)), (m4_13, eI (ty 0) 256 (fun _ => 0)), (m5_14, eI (ty 0) 8 (fun _ => 0)), (m6_15, eI (ty 0) 1000 (fun _ => 0)), (rk_2, eO 4 [.ref lw_3, .ref w1_8, .ref w2_9, .int 0, .int 0, .int 0, .ref ho, .ref m1_10, .int 1, .ref m2_11, .ref m3_12, .int (-1), .ref m4_13, .int (-1), .ref m5_14, .ref m6_15, .ref m7_16, .int 10]), (m7_16, eI (ty 0) 1000 fo9_21)] H := hP
  have hD : va_D A [(nw, eO 5 [.ref n0, .int 0, .int 0, .ref n1, .ref n2, .ref n3]), (n0, eO 7 [.int 0, .int (-1)]), (h0, eO 8 [.ref rd, .ref ho, .ref nw, .ref tr, .ref ts, .ref im, .ref rk_2]), (l2_5, eI (ty 0) 8000 (fun _ => 0)), (l4_7, eI (ty 0) 64 (fun _ => 0)), (w1_8, eO 7 [.int 0, .int (-1)]), (w2_9, eO 7 [.int 0, .int (-1)]), (m1_10, eI (ty 0) 9000 (fun _ => 0)), (m2_11, eI (ty 0) 1000 (fun _ => 0)), (m3_12, eI (ty 0) 1000 (fun _ => 0)), (m4_13, eI (ty 0) 256 (fun _ => 0)), (m5_14, eI (ty 0) 8 (fun _ => 0)), (m6_15, eI (ty 0) 1000 (fun _ => 0)), (rk_2, eO 4 [.ref lw_3, .ref w1_8, .ref w2_9, .int 0, .int 0, .int 0, .ref ho, .ref m1_10, .int 1, .ref m2_11, .ref m3_12, .int (-1), .ref m4_13, .int (-1), .ref m5_14, .ref m6_15, .ref m7_16, .int 10]), (m7_16, eI (ty 0) 1000 fo9_21)] := hD
  exact ret_I (w := []) C hP hD hS [] rfl rfl ⟨rfl, rfl⟩ (by decide) (by decide) d_X8_laws_14
set_option maxHeartbeats 4000000 in
set_option maxRecDepth 100000 in
theorem p_law (l : Launch) (D : va_G) (ty : Nat → ClassId) (h0 : Nat) (rd : Nat) (ho : Nat) (nw : Nat) (tr : Nat) (ts : Nat) (im : Nat) (g1 : Nat) (g2 : Nat) (g3 : Nat) (n0 : Nat) (n1 : Nat) (n2 : Nat) (n3 : Nat) (kk : Int32) (hl9 : l.stackTraces = false) : CX l D ty ⟨"PinchedBill", "law", "(I)I"⟩ prog_1_method_24_code 3 (some .int) 7 112 16 22369 [.ref h0, .int kk] [(h0, eO 8 [.ref rd, .ref ho, .ref nw, .ref tr, .ref ts, .ref im, .null]), (ho, eO 0 [.int 0, .int 1, .int 0, .int 0, .int 0, .int 0, .int 0, .int 0, .int 0, .int 0, .ref g1, .ref g2, .ref g3]), (nw, eO 5 [.ref n0, .int 0, .int 0, .ref n1, .ref n2, .ref n3]), (n0, eO 7 [.int 0, .int (-1)])] (QI D ty (fun (r : Int32) (w : va_W) => ((¬ kk < 0)) ∧ (fA kk.toNatClampNeg) = r ∧ w = [])) (fun E => E = "java/lang/IllegalArgumentException" ∧ ¬ ((¬ kk < 0))) := by
  refine CX_of (by decide) ?_
  intro p e s m below meth c A C hnt hP hD hS
  obtain ⟨⟨hx, hb, hml, hown, hts⟩, hr, hlocks, hnm, hK, hE, hA, hZ⟩ := id C
  refine startW [.ref h0, .int kk] 3 (nle rfl) (lv := [(0, .ref h0), (1, .int kk)]) rfl (fun ls hl => ?_)
  refine lv_iload_n hx hb d_X8_law_0 rfl (lv_at hl 1 rfl) ?_
  have ct_1 : Cut [(h0, eO 8 [.ref rd, .ref ho, .ref nw, .ref tr, .ref ts, .ref im, .null]), (ho, eO 0 [.int 0, .int 1, .int 0, .int 0, .int 0, .int 0, .int 0, .int 0, .int 0, .int 0, .ref g1, .ref g2, .ref g3]), (nw, eO 5 [.ref n0, .int 0, .int 0, .ref n1, .ref n2, .ref n3]), (n0, eO 7 [.int 0, .int (-1)])] [] [(h0, eO 8 [.ref rd, .ref ho, .ref nw, .ref tr, .ref ts, .ref im, .null]), (ho, eO 0 [.int 0, .int 1, .int 0, .int 0, .int 0, .int 0, .int 0, .int 0, .int 0, .int 0, .ref g1, .ref g2, .ref g3]), (nw, eO 5 [.ref n0, .int 0, .int 0, .ref n1, .ref n2, .ref n3]), (n0, eO 7 [.int 0, .int (-1)])] [] [0, 1, 2, 3] := ⟨rfl, rfl, rfl, rfl, by decide⟩
  refine contx_V C hnt hP hD hS ct_1 (fun E h => ⟨h.1, fun h9 => h.2 h9⟩) (by decide) (by decide) (runx_S (As := [.int kk]) (rest := []) C hP hD hS ct_1 (x_notBelow l D ty kk hl9) kS_PinchedBill_198 rfl hl.1 rfl (nle rfl) d_X8_law_1 ⟨by decide, by decide, by decide, by decide⟩) (fun w_4 H locs hw_2 hP hD hS => ?_)
  obtain ⟨hnb_5, rfl⟩ := hw_2
  have hP : va_P D vwCl [(h0, eO 8 [.ref rd, .ref ho, .ref nw, .ref tr, .ref ts, .ref im, .null]), (ho, eO 0 [.int 0, .int 1, .int 0, .int 0, .int 0, .int 0, .int 0, .int 0, .int 0, .int 0, .ref g1, .ref g2, .ref g3]), (nw, eO 5 [.ref n0, .int 0, .int 0, .ref n1, .ref n2, .ref n3]), (n0, eO 7 [.int 0, .int (-1)])] H := hP
  have hD : va_D A [(h0, eO 8 [.ref rd, .ref ho, .ref nw, .ref tr, .ref ts, .ref im, .null]), (ho, eO 0 [.int 0, .int 1, .int 0, .int 0, .int 0, .int 0, .int 0, .int 0, .int 0, .int 0, .ref g1, .ref g2, .ref g3]), (nw, eO 5 [.ref n0, .int 0, .int 0, .ref n1, .ref n2, .ref n3]), (n0, eO 7 [.int 0, .int (-1)])] := hD
  have hk0 := hnb_5
  obtain ⟨ka, hka, rfl⟩ := nI_of hk0
  refine lv_aload_n hx hb d_X8_law_4 rfl (lv_at hl 0 rfl) ?_
  have ct_6 : Cut [(h0, eO 8 [.ref rd, .ref ho, .ref nw, .ref tr, .ref ts, .ref im, .null]), (ho, eO 0 [.int 0, .int 1, .int 0, .int 0, .int 0, .int 0, .int 0, .int 0, .int 0, .int 0, .ref g1, .ref g2, .ref g3]), (nw, eO 5 [.ref n0, .int 0, .int 0, .ref n1, .ref n2, .ref n3]), (n0, eO 7 [.int 0, .int (-1)])] [(h0, eO 8 [.ref rd, .ref ho, .ref nw, .ref tr, .ref ts, .ref im, .null]), (ho, eO 0 [.int 0, .int 1, .int 0, .int 0, .int 0, .int 0, .int 0, .int 0, .int 0, .int 0, .ref g1, .ref g2, .ref g3])] [(nw, eO 5 [.ref n0, .int 0, .int 0, .ref n1, .ref n2, .ref n3]), (n0, eO 7 [.int 0, .int (-1)])] [0, 1] [2, 3] := ⟨rfl, rfl, rfl, rfl, by decide⟩
  refine cont_R C hP hD hS ct_6 (run_V (As := []) (rest := []) C hP hD hS ct_6 (c_reckoned l D ty h0 rd ho nw tr ts im g1 g2 g3) kV_PinchedBill_184 0 rfl rfl rfl rfl hl.1 rfl (nle rfl) d_X8_law_5 ⟨by decide, by decide, by decide, by decide⟩) (fun r_23 w_24 H locs hw_22 hP hD hS => ?_)
  obtain ⟨rk_7, lw_8, l1_9, l2_10, l3_11, l4_12, w1_13, w2_14, m1_15, m2_16, m3_17, m4_18, m5_19, m6_20, m7_21, rfl, rfl⟩ := hw_22
  have hP : va_P D vwCl [(nw, eO 5 [.ref n0, .int 0, .int 0, .ref n1, .ref n2, .ref n3]), (n0, eO 7 [.int 0, .int (-1)]), (h0, eO 8 [.ref rd, .ref ho, .ref nw, .ref tr, .ref ts, .ref im, .ref rk_7]), (ho, eO 0 [.int 0, .int 1, .int 0, .int 0, .int 0, .int 0, .int 0, .int 0, .int 0, .int 0, .ref g1, .ref g2, .ref g3]), (rk_7, eO 4 [.ref lw_8, .ref w1_13, .ref w2_14, .int 0, .int 0, .int 0, .ref ho, .ref m1_15, .int 1, .ref m2_16, .ref m3_17, .int (-1), .ref m4_18, .int (-1), .ref m5_19, .ref m6_20, .ref m7_21, .int 0]), (lw_8, eO 2 [.ref ho, .ref l1_9, .ref l2_10, .ref l3_11, .ref l4_12]), (l1_9, eI (ty 0) 1000 (fun _ => 0)), (l2_10, eI (ty 0) 8000 (fun _ => 0)), (l3_11, eI (ty 0) 8 (fun _ => 0)), (l4_12, eI (ty 0) 64 (fun _ => 0)), (w1_13, eO 7 [.int 0, .int (-1)]), (w2_14, eO 7 [.int 0, .int (-1)]), (m1_15, eI (ty 0) 9000 (fun _ => 0)), (m2_16, eI (ty 0) 1000 (fun _ => 0)), (m3_17, eI (ty 0) 1000 (fun _ => 0)), (m4_18, eI (ty 0) 256 (fun _ => 0)), (m5_19, eI (ty 0) 8 (fun _ => 0)), (m6_20, eI (ty 0) 1000 (fun _ => 0)), (m7_21, eI (ty 0) 1000 (fun _ => 0))] H := hP
  have hD : va_D A [(nw, eO 5 [.ref n0, .int 0, .int 0, .ref n1, .ref n2, .ref n3]), (n0, eO 7 [.int 0, .int (-1)]), (h0, eO 8 [.ref rd, .ref ho, .ref nw, .ref tr, .ref ts, .ref im, .ref rk_7]), (ho, eO 0 [.int 0, .int 1, .int 0, .int 0, .int 0, .int 0, .int 0, .int 0, .int 0, .int 0, .ref g1, .ref g2, .ref g3]), (rk_7, eO 4 [.ref lw_8, .ref w1_13, .ref w2_14, .int 0, .int 0, .int 0, .ref ho, .ref m1_15, .int 1, .ref m2_16, .ref m3_17, .int (-1), .ref m4_18, .int (-1), .ref m5_19, .ref m6_20, .ref m7_21, .int 0]), (lw_8, eO 2 [.ref ho, .ref l1_9, .ref l2_10, .ref l3_11, .ref l4_12]), (l1_9, eI (ty 0) 1000 (fun _ => 0)), (l2_10, eI (ty 0) 8000 (fun _ => 0)), (l3_11, eI (ty 0) 8 (fun _ => 0)), (l4_12, eI (ty 0) 64 (fun _ => 0)), (w1_13, eO 7 [.int 0, .int (-1)]), (w2_14, eO 7 [.int 0, .int (-1)]), (m1_15, eI (ty 0) 9000 (fun _ => 0)), (m2_16, eI (ty 0) 1000 (fun _ => 0)), (m3_17, eI (ty 0) 1000 (fun _ => 0)), (m4_18, eI (ty 0) 256 (fun _ => 0)), (m5_19, eI (ty 0) 8 (fun _ => 0)), (m6_20, eI (ty 0) 1000 (fun _ => 0)), (m7_21, eI (ty 0) 1000 (fun _ => 0))] := hD
  refine lv_astore_n (lv' := [(2, .ref rk_7), (0, .ref h0), (1, .int (nI ka))]) hx hb d_X8_law_8 rfl hl (by decide) rfl (fun ls hl => ?_)
  refine lv_aload_n hx hb d_X8_law_9 rfl (lv_at hl 0 rfl) ?_
  refine lv_aload_n hx hb d_X8_law_10 rfl (lv_at hl 1 rfl) ?_
  refine r_get (v := .ref nw) C hP 2 rfl rfl lay_X8 2 (by decide) k_322 rfl d_X8_law_11 ?_
  refine r_get (v := .int 0) C hP 0 rfl rfl lay_X5 1 (by decide) k_297 rfl d_X8_law_14 ?_
  have ct_25 : Cut [(nw, eO 5 [.ref n0, .int 0, .int 0, .ref n1, .ref n2, .ref n3]), (n0, eO 7 [.int 0, .int (-1)]), (h0, eO 8 [.ref rd, .ref ho, .ref nw, .ref tr, .ref ts, .ref im, .ref rk_7]), (ho, eO 0 [.int 0, .int 1, .int 0, .int 0, .int 0, .int 0, .int 0, .int 0, .int 0, .int 0, .ref g1, .ref g2, .ref g3]), (rk_7, eO 4 [.ref lw_8, .ref w1_13, .ref w2_14, .int 0, .int 0, .int 0, .ref ho, .ref m1_15, .int 1, .ref m2_16, .ref m3_17, .int (-1), .ref m4_18, .int (-1), .ref m5_19, .ref m6_20, .ref m7_21, .int 0]), (lw_8, eO 2 [.ref ho, .ref l1_9, .ref l2_10, .ref l3_11, .ref l4_12]), (l1_9, eI (ty 0) 1000 (fun _ => 0)), (l2_10, eI (ty 0) 8000 (fun _ => 0)), (l3_11, eI (ty 0) 8 (fun _ => 0)), (l4_12, eI (ty 0) 64 (fun _ => 0)), (w1_13, eO 7 [.int 0, .int (-1)]), (w2_14, eO 7 [.int 0, .int (-1)]), (m1_15, eI (ty 0) 9000 (fun _ => 0)), (m2_16, eI (ty 0) 1000 (fun _ => 0)), (m3_17, eI (ty 0) 1000 (fun _ => 0)), (m4_18, eI (ty 0) 256 (fun _ => 0)), (m5_19, eI (ty 0) 8 (fun _ => 0)), (m6_20, eI (ty 0) 1000 (fun _ => 0)), (m7_21, eI (ty 0) 1000 (fun _ => 0))] [(rk_7, eO 4 [.ref lw_8, .ref w1_13, .ref w2_14, .int 0, .int 0, .int 0, .ref ho, .ref m1_15, .int 1, .ref m2_16, .ref m3_17, .int (-1), .ref m4_18, .int (-1), .ref m5_19, .ref m6_20, .ref m7_21, .int 0]), (lw_8, eO 2 [.ref ho, .ref l1_9, .ref l2_10, .ref l3_11, .ref l4_12]), (ho, eO 0 [.int 0, .int 1, .int 0, .int 0, .int 0, .int 0, .int 0, .int 0, .int 0, .int 0, .ref g1, .ref g2, .ref g3]), (l1_9, eI (ty 0) 1000 (fun _ => 0)), (l3_11, eI (ty 0) 8 (fun _ => 0)), (m7_21, eI (ty 0) 1000 (fun _ => 0))] [(nw, eO 5 [.ref n0, .int 0, .int 0, .ref n1, .ref n2, .ref n3]), (n0, eO 7 [.int 0, .int (-1)]), (h0, eO 8 [.ref rd, .ref ho, .ref nw, .ref tr, .ref ts, .ref im, .ref rk_7]), (l2_10, eI (ty 0) 8000 (fun _ => 0)), (l4_12, eI (ty 0) 64 (fun _ => 0)), (w1_13, eO 7 [.int 0, .int (-1)]), (w2_14, eO 7 [.int 0, .int (-1)]), (m1_15, eI (ty 0) 9000 (fun _ => 0)), (m2_16, eI (ty 0) 1000 (fun _ => 0)), (m3_17, eI (ty 0) 1000 (fun _ => 0)), (m4_18, eI (ty 0) 256 (fun _ => 0)), (m5_19, eI (ty 0) 8 (fun _ => 0)), (m6_20, eI (ty 0) 1000 (fun _ => 0))] [4, 5, 3, 6, 8, 18] [0, 1, 2, 7, 9, 10, 11, 12, 13, 14, 15, 16, 17] := ⟨rfl, rfl, rfl, rfl, by decide⟩
  refine cont_I C hP hD hS ct_25 (run_V (As := [.int 0]) (rest := []) C hP hD hS ct_25 (c_findLaws l D ty rk_7 ho lw_8 l1_9 l2_10 l3_11 l4_12 w1_13 w2_14 m1_15 m2_16 m3_17 m4_18 m5_19 m6_20 m7_21 g1 g2 g3 0 0 0 (-1) (-1) 0 1 (fun _ => 0) (fun _ => 0) (fun _ => 0) B01_0) kV_PinchedBill_195 4 rfl rfl rfl rfl hl.1 rfl (nle rfl) d_X8_law_17 ⟨by decide, by decide, by decide, by decide⟩) (fun r_28 w_29 H locs hw_27 hP hD hS => ?_)
  obtain ⟨fo9_26, hfo9_30, rfl, rfl⟩ := hw_27
  have hP : va_P D vwCl [(nw, eO 5 [.ref n0, .int 0, .int 0, .ref n1, .ref n2, .ref n3]), (n0, eO 7 [.int 0, .int (-1)]), (h0, eO 8 [.ref rd, .ref ho, .ref nw, .ref tr, .ref ts, .ref im, .ref rk_7]), (l2_10, eI (ty 0) 8000 (fun _ => 0)), (l4_12, eI (ty 0) 64 (fun _ => 0)), (w1_13, eO 7 [.int 0, .int (-1)]), (w2_14, eO 7 [.int 0, .int (-1)]), (m1_15, eI (ty 0) 9000 (fun _ => 0)), (m2_16, eI (ty 0) 1000 (fun _ => 0)), (m3_17, eI (ty 0) 1000 (fun _ => 0)), (m4_18, eI (ty 0) 256 (fun _ => 0)), (m5_19, eI (ty 0) 8 (fun _ => 0)), (m6_20, eI (ty 0) 1000 (fun _ => 0)), (rk_7, eO 4 [.ref lw_8, .ref w1_13, .ref w2_14, .int 0, .int 0, .int 0, .ref ho, .ref m1_15, .int 1, .ref m2_16, .ref m3_17, .int (-1), .ref m4_18, .int (-1), .ref m5_19, .ref m6_20, .ref m7_21, .int 10]), (m7_21, eI (ty 0) 1000 fo9_26)] H := hP
  have hD : va_D A [(nw, eO 5 [.ref n0, .int 0, .int 0, .ref n1, .ref n2, .ref n3]), (n0, eO 7 [.int 0, .int (-1)]), (h0, eO 8 [.ref rd, .ref ho, .ref nw, .ref tr, .ref ts, .ref im, .ref rk_7]), (l2_10, eI (ty 0) 8000 (fun _ => 0)), (l4_12, eI (ty 0) 64 (fun _ => 0)), (w1_13, eO 7 [.int 0, .int (-1)]), (w2_14, eO 7 [.int 0, .int (-1)]), (m1_15, eI (ty 0) 9000 (fun _ => 0)), (m2_16, eI (ty 0) 1000 (fun _ => 0)), (m3_17, eI (ty 0) 1000 (fun _ => 0)), (m4_18, eI (ty 0) 256 (fun _ => 0)), (m5_19, eI (ty 0) 8 (fun _ => 0)), (m6_20, eI (ty 0) 1000 (fun _ => 0)), (rk_7, eO 4 [.ref lw_8, .ref w1_13, .ref w2_14, .int 0, .int 0, .int 0, .ref ho, .ref m1_15, .int 1, .ref m2_16, .ref m3_17, .int (-1), .ref m4_18, .int (-1), .ref m5_19, .ref m6_20, .ref m7_21, .int 10]), (m7_21, eI (ty 0) 1000 fo9_26)] := hD
  refine lv_pop hx hb d_X8_law_20 rfl ?_
  refine lv_aload_n hx hb d_X8_law_21 rfl (lv_at hl 0 rfl) ?_
  refine lv_iload_n hx hb d_X8_law_22 rfl (lv_at hl 2 rfl) ?_
  have ct_31 : Cut [(nw, eO 5 [.ref n0, .int 0, .int 0, .ref n1, .ref n2, .ref n3]), (n0, eO 7 [.int 0, .int (-1)]), (h0, eO 8 [.ref rd, .ref ho, .ref nw, .ref tr, .ref ts, .ref im, .ref rk_7]), (l2_10, eI (ty 0) 8000 (fun _ => 0)), (l4_12, eI (ty 0) 64 (fun _ => 0)), (w1_13, eO 7 [.int 0, .int (-1)]), (w2_14, eO 7 [.int 0, .int (-1)]), (m1_15, eI (ty 0) 9000 (fun _ => 0)), (m2_16, eI (ty 0) 1000 (fun _ => 0)), (m3_17, eI (ty 0) 1000 (fun _ => 0)), (m4_18, eI (ty 0) 256 (fun _ => 0)), (m5_19, eI (ty 0) 8 (fun _ => 0)), (m6_20, eI (ty 0) 1000 (fun _ => 0)), (rk_7, eO 4 [.ref lw_8, .ref w1_13, .ref w2_14, .int 0, .int 0, .int 0, .ref ho, .ref m1_15, .int 1, .ref m2_16, .ref m3_17, .int (-1), .ref m4_18, .int (-1), .ref m5_19, .ref m6_20, .ref m7_21, .int 10]), (m7_21, eI (ty 0) 1000 fo9_26)] [(rk_7, eO 4 [.ref lw_8, .ref w1_13, .ref w2_14, .int 0, .int 0, .int 0, .ref ho, .ref m1_15, .int 1, .ref m2_16, .ref m3_17, .int (-1), .ref m4_18, .int (-1), .ref m5_19, .ref m6_20, .ref m7_21, .int 10]), (m7_21, eI (ty 0) 1000 fo9_26)] [(nw, eO 5 [.ref n0, .int 0, .int 0, .ref n1, .ref n2, .ref n3]), (n0, eO 7 [.int 0, .int (-1)]), (h0, eO 8 [.ref rd, .ref ho, .ref nw, .ref tr, .ref ts, .ref im, .ref rk_7]), (l2_10, eI (ty 0) 8000 (fun _ => 0)), (l4_12, eI (ty 0) 64 (fun _ => 0)), (w1_13, eO 7 [.int 0, .int (-1)]), (w2_14, eO 7 [.int 0, .int (-1)]), (m1_15, eI (ty 0) 9000 (fun _ => 0)), (m2_16, eI (ty 0) 1000 (fun _ => 0)), (m3_17, eI (ty 0) 1000 (fun _ => 0)), (m4_18, eI (ty 0) 256 (fun _ => 0)), (m5_19, eI (ty 0) 8 (fun _ => 0)), (m6_20, eI (ty 0) 1000 (fun _ => 0))] [13, 14] [0, 1, 2, 3, 4, 5, 6, 7, 8, 9, 10, 11, 12] := ⟨rfl, rfl, rfl, rfl, by decide⟩
  refine cont_I C hP hD hS ct_31 (run_V (As := [.int (nI ka)]) (rest := []) C hP hD hS ct_31 (c_foundAt l D ty rk_7 ho lw_8 w1_13 w2_14 m1_15 m2_16 m3_17 m4_18 m5_19 m6_20 m7_21 0 0 0 (-1) (-1) 1 fo9_26 ka hka hfo9_30) kV_PinchedBill_201 13 rfl rfl rfl rfl hl.1 rfl (nle rfl) d_X8_law_23 ⟨by decide, by decide, by decide, by decide⟩) (fun r_33 w_34 H locs hw_32 hP hD hS => ?_)
  obtain ⟨rfl, rfl⟩ := hw_32
  have hP : va_P D vwCl [(nw, eO 5 [.ref n0, .int 0, .int 0, .ref n1, .ref n2, .ref n3]), (n0, eO 7 [.int 0, .int (-1)]), (h0, eO 8 [.ref rd, .ref ho, .ref nw, .ref tr, .ref ts, .ref im, .ref rk_7]), (l2_10, eI (ty 0) 8000 (fun _ => 0)), (l4_12, eI (ty 0) 64 (fun _ => 0)), (w1_13, eO 7 [.int 0, .int (-1)]), (w2_14, eO 7 [.int 0, .int (-1)]), (m1_15, eI (ty 0) 9000 (fun _ => 0)), (m2_16, eI (ty 0) 1000 (fun _ => 0)), (m3_17, eI (ty 0) 1000 (fun _ => 0)), (m4_18, eI (ty 0) 256 (fun _ => 0)), (m5_19, eI (ty 0) 8 (fun _ => 0)), (m6_20, eI (ty 0) 1000 (fun _ => 0)), (rk_7, eO 4 [.ref lw_8, .ref w1_13, .ref w2_14, .int 0, .int 0, .int 0, .ref ho, .ref m1_15, .int 1, .ref m2_16, .ref m3_17, .int (-1), .ref m4_18, .int (-1), .ref m5_19, .ref m6_20, .ref m7_21, .int 10]), (m7_21, eI (ty 0) 1000 fo9_26)] H := hP
  have hD : va_D A [(nw, eO 5 [.ref n0, .int 0, .int 0, .ref n1, .ref n2, .ref n3]), (n0, eO 7 [.int 0, .int (-1)]), (h0, eO 8 [.ref rd, .ref ho, .ref nw, .ref tr, .ref ts, .ref im, .ref rk_7]), (l2_10, eI (ty 0) 8000 (fun _ => 0)), (l4_12, eI (ty 0) 64 (fun _ => 0)), (w1_13, eO 7 [.int 0, .int (-1)]), (w2_14, eO 7 [.int 0, .int (-1)]), (m1_15, eI (ty 0) 9000 (fun _ => 0)), (m2_16, eI (ty 0) 1000 (fun _ => 0)), (m3_17, eI (ty 0) 1000 (fun _ => 0)), (m4_18, eI (ty 0) 256 (fun _ => 0)), (m5_19, eI (ty 0) 8 (fun _ => 0)), (m6_20, eI (ty 0) 1000 (fun _ => 0)), (rk_7, eO 4 [.ref lw_8, .ref w1_13, .ref w2_14, .int 0, .int 0, .int 0, .ref ho, .ref m1_15, .int 1, .ref m2_16, .ref m3_17, .int (-1), .ref m4_18, .int (-1), .ref m5_19, .ref m6_20, .ref m7_21, .int 10]), (m7_21, eI (ty 0) 1000 fo9_26)] := hD
  exact vx_ret (ret_I (w := []) C hP hD hS [] rfl rfl ⟨hnb_5, (Eq.symm (by rw [nI_clamp hka])), rfl⟩ (by decide) (by decide) d_X8_law_26)
set_option maxHeartbeats 4000000 in
set_option maxRecDepth 100000 in
theorem p_into (l : Launch) (D : va_G) (ty : Nat → ClassId) (h0 : Nat) (rd : Nat) (ho : Nat) (nw : Nat) (tr : Nat) (ts : Nat) (im : Nat) (g1 : Nat) (g2 : Nat) (g3 : Nat) (n0 : Nat) (n1 : Nat) (n2 : Nat) (n3 : Nat) (b : Int32) (hl9 : l.stackTraces = false) : CX l D ty ⟨"PinchedBill", "into", "(I)I"⟩ prog_1_method_25_code 2 (some .int) 7 162 16 22369 [.ref h0, .int b] [(h0, eO 8 [.ref rd, .ref ho, .ref nw, .ref tr, .ref ts, .ref im, .null]), (ho, eO 0 [.int 0, .int 1, .int 0, .int 0, .int 0, .int 0, .int 0, .int 0, .int 0, .int 0, .ref g1, .ref g2, .ref g3]), (nw, eO 5 [.ref n0, .int 0, .int 0, .ref n1, .ref n2, .ref n3]), (n0, eO 7 [.int 0, .int (-1)])] (QI D ty (fun (r : Int32) (w : va_W) => ((bB b = 1)) ∧ 1 = r ∧ w = [])) (fun E => E = "java/lang/IllegalArgumentException" ∧ ¬ ((bB b = 1))) := by
  refine CX_of (by decide) ?_
  intro p e s m below meth c A C hnt hP hD hS
  obtain ⟨⟨hx, hb, hml, hown, hts⟩, hr, hlocks, hnm, hK, hE, hA, hZ⟩ := id C
  refine startW [.ref h0, .int b] 2 (nle rfl) (lv := [(0, .ref h0), (1, .int b)]) rfl (fun ls hl => ?_)
  refine lv_aload_n hx hb d_X8_into_0 rfl (lv_at hl 0 rfl) ?_
  refine lv_iload_n hx hb d_X8_into_1 rfl (lv_at hl 1 rfl) ?_
  have ct_1 : Cut [(h0, eO 8 [.ref rd, .ref ho, .ref nw, .ref tr, .ref ts, .ref im, .null]), (ho, eO 0 [.int 0, .int 1, .int 0, .int 0, .int 0, .int 0, .int 0, .int 0, .int 0, .int 0, .ref g1, .ref g2, .ref g3]), (nw, eO 5 [.ref n0, .int 0, .int 0, .ref n1, .ref n2, .ref n3]), (n0, eO 7 [.int 0, .int (-1)])] [(h0, eO 8 [.ref rd, .ref ho, .ref nw, .ref tr, .ref ts, .ref im, .null]), (ho, eO 0 [.int 0, .int 1, .int 0, .int 0, .int 0, .int 0, .int 0, .int 0, .int 0, .int 0, .ref g1, .ref g2, .ref g3])] [(nw, eO 5 [.ref n0, .int 0, .int 0, .ref n1, .ref n2, .ref n3]), (n0, eO 7 [.int 0, .int (-1)])] [0, 1] [2, 3] := ⟨rfl, rfl, rfl, rfl, by decide⟩
  refine contx_V C hnt hP hD hS ct_1 (fun E h => ⟨h.1, fun h9 => h.2 h9⟩) (by decide) (by decide) (runx_V (As := [.int b]) (rest := []) C hP hD hS ct_1 (x_bill l D ty h0 rd ho nw tr ts im g1 g2 g3 b hl9) kV_PinchedBill_119 0 rfl rfl rfl rfl hl.1 rfl (nle rfl) d_X8_into_2 ⟨by decide, by decide, by decide, by decide⟩) (fun w_4 H locs hw_2 hP hD hS => ?_)
  obtain ⟨hbb_5, rfl⟩ := hw_2
  have hP : va_P D vwCl [(nw, eO 5 [.ref n0, .int 0, .int 0, .ref n1, .ref n2, .ref n3]), (n0, eO 7 [.int 0, .int (-1)]), (h0, eO 8 [.ref rd, .ref ho, .ref nw, .ref tr, .ref ts, .ref im, .null]), (ho, eO 0 [.int 0, .int 1, .int 0, .int 0, .int 0, .int 0, .int 0, .int 0, .int 0, .int 0, .ref g1, .ref g2, .ref g3])] H := hP
  have hD : va_D A [(nw, eO 5 [.ref n0, .int 0, .int 0, .ref n1, .ref n2, .ref n3]), (n0, eO 7 [.int 0, .int (-1)]), (h0, eO 8 [.ref rd, .ref ho, .ref nw, .ref tr, .ref ts, .ref im, .null]), (ho, eO 0 [.int 0, .int 1, .int 0, .int 0, .int 0, .int 0, .int 0, .int 0, .int 0, .int 0, .ref g1, .ref g2, .ref g3])] := hD
  obtain ⟨jb, hj_6, rfl⟩ := bB_of hbb_5
  refine lv_aload_n hx hb d_X8_into_5 rfl (lv_at hl 0 rfl) ?_
  have ct_7 : Cut [(nw, eO 5 [.ref n0, .int 0, .int 0, .ref n1, .ref n2, .ref n3]), (n0, eO 7 [.int 0, .int (-1)]), (h0, eO 8 [.ref rd, .ref ho, .ref nw, .ref tr, .ref ts, .ref im, .null]), (ho, eO 0 [.int 0, .int 1, .int 0, .int 0, .int 0, .int 0, .int 0, .int 0, .int 0, .int 0, .ref g1, .ref g2, .ref g3])] [(h0, eO 8 [.ref rd, .ref ho, .ref nw, .ref tr, .ref ts, .ref im, .null]), (ho, eO 0 [.int 0, .int 1, .int 0, .int 0, .int 0, .int 0, .int 0, .int 0, .int 0, .int 0, .ref g1, .ref g2, .ref g3])] [(nw, eO 5 [.ref n0, .int 0, .int 0, .ref n1, .ref n2, .ref n3]), (n0, eO 7 [.int 0, .int (-1)])] [2, 3] [0, 1] := ⟨rfl, rfl, rfl, rfl, by decide⟩
  refine cont_R C hP hD hS ct_7 (run_V (As := []) (rest := []) C hP hD hS ct_7 (c_reckoned l D ty h0 rd ho nw tr ts im g1 g2 g3) kV_PinchedBill_184 2 rfl rfl rfl rfl hl.1 rfl (nle rfl) d_X8_into_6 ⟨by decide, by decide, by decide, by decide⟩) (fun r_24 w_25 H locs hw_23 hP hD hS => ?_)
  obtain ⟨rk_8, lw_9, l1_10, l2_11, l3_12, l4_13, w1_14, w2_15, m1_16, m2_17, m3_18, m4_19, m5_20, m6_21, m7_22, rfl, rfl⟩ := hw_23
  have hP : va_P D vwCl [(nw, eO 5 [.ref n0, .int 0, .int 0, .ref n1, .ref n2, .ref n3]), (n0, eO 7 [.int 0, .int (-1)]), (h0, eO 8 [.ref rd, .ref ho, .ref nw, .ref tr, .ref ts, .ref im, .ref rk_8]), (ho, eO 0 [.int 0, .int 1, .int 0, .int 0, .int 0, .int 0, .int 0, .int 0, .int 0, .int 0, .ref g1, .ref g2, .ref g3]), (rk_8, eO 4 [.ref lw_9, .ref w1_14, .ref w2_15, .int 0, .int 0, .int 0, .ref ho, .ref m1_16, .int 1, .ref m2_17, .ref m3_18, .int (-1), .ref m4_19, .int (-1), .ref m5_20, .ref m6_21, .ref m7_22, .int 0]), (lw_9, eO 2 [.ref ho, .ref l1_10, .ref l2_11, .ref l3_12, .ref l4_13]), (l1_10, eI (ty 0) 1000 (fun _ => 0)), (l2_11, eI (ty 0) 8000 (fun _ => 0)), (l3_12, eI (ty 0) 8 (fun _ => 0)), (l4_13, eI (ty 0) 64 (fun _ => 0)), (w1_14, eO 7 [.int 0, .int (-1)]), (w2_15, eO 7 [.int 0, .int (-1)]), (m1_16, eI (ty 0) 9000 (fun _ => 0)), (m2_17, eI (ty 0) 1000 (fun _ => 0)), (m3_18, eI (ty 0) 1000 (fun _ => 0)), (m4_19, eI (ty 0) 256 (fun _ => 0)), (m5_20, eI (ty 0) 8 (fun _ => 0)), (m6_21, eI (ty 0) 1000 (fun _ => 0)), (m7_22, eI (ty 0) 1000 (fun _ => 0))] H := hP
  have hD : va_D A [(nw, eO 5 [.ref n0, .int 0, .int 0, .ref n1, .ref n2, .ref n3]), (n0, eO 7 [.int 0, .int (-1)]), (h0, eO 8 [.ref rd, .ref ho, .ref nw, .ref tr, .ref ts, .ref im, .ref rk_8]), (ho, eO 0 [.int 0, .int 1, .int 0, .int 0, .int 0, .int 0, .int 0, .int 0, .int 0, .int 0, .ref g1, .ref g2, .ref g3]), (rk_8, eO 4 [.ref lw_9, .ref w1_14, .ref w2_15, .int 0, .int 0, .int 0, .ref ho, .ref m1_16, .int 1, .ref m2_17, .ref m3_18, .int (-1), .ref m4_19, .int (-1), .ref m5_20, .ref m6_21, .ref m7_22, .int 0]), (lw_9, eO 2 [.ref ho, .ref l1_10, .ref l2_11, .ref l3_12, .ref l4_13]), (l1_10, eI (ty 0) 1000 (fun _ => 0)), (l2_11, eI (ty 0) 8000 (fun _ => 0)), (l3_12, eI (ty 0) 8 (fun _ => 0)), (l4_13, eI (ty 0) 64 (fun _ => 0)), (w1_14, eO 7 [.int 0, .int (-1)]), (w2_15, eO 7 [.int 0, .int (-1)]), (m1_16, eI (ty 0) 9000 (fun _ => 0)), (m2_17, eI (ty 0) 1000 (fun _ => 0)), (m3_18, eI (ty 0) 1000 (fun _ => 0)), (m4_19, eI (ty 0) 256 (fun _ => 0)), (m5_20, eI (ty 0) 8 (fun _ => 0)), (m6_21, eI (ty 0) 1000 (fun _ => 0)), (m7_22, eI (ty 0) 1000 (fun _ => 0))] := hD
  refine lv_iload_n hx hb d_X8_into_9 rfl (lv_at hl 1 rfl) ?_
  refine lv_aload_n hx hb d_X8_into_10 rfl (lv_at hl 0 rfl) ?_
  refine r_get (v := .ref nw) C hP 2 rfl rfl lay_X8 2 (by decide) k_322 rfl d_X8_into_11 ?_
  refine r_get (v := .int 0) C hP 0 rfl rfl lay_X5 1 (by decide) k_297 rfl d_X8_into_14 ?_
  have ct_26 : Cut [(nw, eO 5 [.ref n0, .int 0, .int 0, .ref n1, .ref n2, .ref n3]), (n0, eO 7 [.int 0, .int (-1)]), (h0, eO 8 [.ref rd, .ref ho, .ref nw, .ref tr, .ref ts, .ref im, .ref rk_8]), (ho, eO 0 [.int 0, .int 1, .int 0, .int 0, .int 0, .int 0, .int 0, .int 0, .int 0, .int 0, .ref g1, .ref g2, .ref g3]), (rk_8, eO 4 [.ref lw_9, .ref w1_14, .ref w2_15, .int 0, .int 0, .int 0, .ref ho, .ref m1_16, .int 1, .ref m2_17, .ref m3_18, .int (-1), .ref m4_19, .int (-1), .ref m5_20, .ref m6_21, .ref m7_22, .int 0]), (lw_9, eO 2 [.ref ho, .ref l1_10, .ref l2_11, .ref l3_12, .ref l4_13]), (l1_10, eI (ty 0) 1000 (fun _ => 0)), (l2_11, eI (ty 0) 8000 (fun _ => 0)), (l3_12, eI (ty 0) 8 (fun _ => 0)), (l4_13, eI (ty 0) 64 (fun _ => 0)), (w1_14, eO 7 [.int 0, .int (-1)]), (w2_15, eO 7 [.int 0, .int (-1)]), (m1_16, eI (ty 0) 9000 (fun _ => 0)), (m2_17, eI (ty 0) 1000 (fun _ => 0)), (m3_18, eI (ty 0) 1000 (fun _ => 0)), (m4_19, eI (ty 0) 256 (fun _ => 0)), (m5_20, eI (ty 0) 8 (fun _ => 0)), (m6_21, eI (ty 0) 1000 (fun _ => 0)), (m7_22, eI (ty 0) 1000 (fun _ => 0))] [(rk_8, eO 4 [.ref lw_9, .ref w1_14, .ref w2_15, .int 0, .int 0, .int 0, .ref ho, .ref m1_16, .int 1, .ref m2_17, .ref m3_18, .int (-1), .ref m4_19, .int (-1), .ref m5_20, .ref m6_21, .ref m7_22, .int 0]), (lw_9, eO 2 [.ref ho, .ref l1_10, .ref l2_11, .ref l3_12, .ref l4_13]), (ho, eO 0 [.int 0, .int 1, .int 0, .int 0, .int 0, .int 0, .int 0, .int 0, .int 0, .int 0, .ref g1, .ref g2, .ref g3]), (l1_10, eI (ty 0) 1000 (fun _ => 0)), (l3_12, eI (ty 0) 8 (fun _ => 0)), (w1_14, eO 7 [.int 0, .int (-1)]), (m1_16, eI (ty 0) 9000 (fun _ => 0)), (m2_17, eI (ty 0) 1000 (fun _ => 0)), (m3_18, eI (ty 0) 1000 (fun _ => 0))] [(nw, eO 5 [.ref n0, .int 0, .int 0, .ref n1, .ref n2, .ref n3]), (n0, eO 7 [.int 0, .int (-1)]), (h0, eO 8 [.ref rd, .ref ho, .ref nw, .ref tr, .ref ts, .ref im, .ref rk_8]), (l2_11, eI (ty 0) 8000 (fun _ => 0)), (l4_13, eI (ty 0) 64 (fun _ => 0)), (w2_15, eO 7 [.int 0, .int (-1)]), (m4_19, eI (ty 0) 256 (fun _ => 0)), (m5_20, eI (ty 0) 8 (fun _ => 0)), (m6_21, eI (ty 0) 1000 (fun _ => 0)), (m7_22, eI (ty 0) 1000 (fun _ => 0))] [4, 5, 3, 6, 8, 10, 12, 13, 14] [0, 1, 2, 7, 9, 11, 15, 16, 17, 18] := ⟨rfl, rfl, rfl, rfl, by decide⟩
  refine cont_I C hP hD hS ct_26 (run_V (As := [.int (nI (100 * jb)), .int 0]) (rest := []) C hP hD hS ct_26 (c_howMany l D ty rk_8 ho lw_9 l1_10 l2_11 l3_12 l4_13 w1_14 w2_15 m1_16 m2_17 m3_18 m4_19 m5_20 m6_21 m7_22 g1 g2 g3 0 0 0 (-1) 0 1 0 (-1) (fun _ => 0) (fun _ => 0) (fun _ => 0) (fun _ => 0) (fun _ => 0) jb B01_0 (by omega) MK_0 hj_6) kV_PinchedBill_204 4 rfl rfl rfl rfl hl.1 rfl (nle rfl) d_X8_into_17 ⟨by decide, by decide, by decide, by decide⟩) (fun r_28 w_29 H locs hw_27 hP hD hS => ?_)
  obtain ⟨rfl, rfl⟩ := hw_27
  have hP : va_P D vwCl [(nw, eO 5 [.ref n0, .int 0, .int 0, .ref n1, .ref n2, .ref n3]), (n0, eO 7 [.int 0, .int (-1)]), (h0, eO 8 [.ref rd, .ref ho, .ref nw, .ref tr, .ref ts, .ref im, .ref rk_8]), (l2_11, eI (ty 0) 8000 (fun _ => 0)), (l4_13, eI (ty 0) 64 (fun _ => 0)), (w2_15, eO 7 [.int 0, .int (-1)]), (m4_19, eI (ty 0) 256 (fun _ => 0)), (m5_20, eI (ty 0) 8 (fun _ => 0)), (m6_21, eI (ty 0) 1000 (fun _ => 0)), (m7_22, eI (ty 0) 1000 (fun _ => 0))] H := hP
  have hD : va_D A [(nw, eO 5 [.ref n0, .int 0, .int 0, .ref n1, .ref n2, .ref n3]), (n0, eO 7 [.int 0, .int (-1)]), (h0, eO 8 [.ref rd, .ref ho, .ref nw, .ref tr, .ref ts, .ref im, .ref rk_8]), (l2_11, eI (ty 0) 8000 (fun _ => 0)), (l4_13, eI (ty 0) 64 (fun _ => 0)), (w2_15, eO 7 [.int 0, .int (-1)]), (m4_19, eI (ty 0) 256 (fun _ => 0)), (m5_20, eI (ty 0) 8 (fun _ => 0)), (m6_21, eI (ty 0) 1000 (fun _ => 0)), (m7_22, eI (ty 0) 1000 (fun _ => 0))] := hD
  exact vx_ret (ret_I (w := []) C hP hD hS [] rfl rfl ⟨hbb_5, rfl, rfl⟩ (by decide) (by decide) d_X8_into_20)
set_option maxHeartbeats 4000000 in
set_option maxRecDepth 100000 in
theorem c_endless (l : Launch) (D : va_G) (ty : Nat → ClassId) (h0 : Nat) (rd : Nat) (ho : Nat) (nw : Nat) (tr : Nat) (ts : Nat) (im : Nat) (g1 : Nat) (g2 : Nat) (g3 : Nat) (n0 : Nat) (n1 : Nat) (n2 : Nat) (n3 : Nat) : CC l D ty ⟨"PinchedBill", "endless", "()I"⟩ prog_1_method_26_code 1 (some .int) 7 162 15 22363 [.ref h0] [(h0, eO 8 [.ref rd, .ref ho, .ref nw, .ref tr, .ref ts, .ref im, .null]), (ho, eO 0 [.int 0, .int 1, .int 0, .int 0, .int 0, .int 0, .int 0, .int 0, .int 0, .int 0, .ref g1, .ref g2, .ref g3]), (nw, eO 5 [.ref n0, .int 0, .int 0, .ref n1, .ref n2, .ref n3]), (n0, eO 7 [.int 0, .int (-1)])] (QI D ty (fun (r : Int32) (w : va_W) => 0 = r ∧ w = [])) := by
  refine CC_of (by decide) ?_
  intro p e s m below meth c A C hP hD hS
  obtain ⟨⟨hx, hb, hml, hown, hts⟩, hr, hlocks, hnm, hK, hE, hA, hZ⟩ := id C
  refine startW [.ref h0] 1 (nle rfl) (lv := [(0, .ref h0)]) rfl (fun ls hl => ?_)
  refine lv_aload_n hx hb d_X8_endless_0 rfl (lv_at hl 0 rfl) ?_
  have ct_1 : Cut [(h0, eO 8 [.ref rd, .ref ho, .ref nw, .ref tr, .ref ts, .ref im, .null]), (ho, eO 0 [.int 0, .int 1, .int 0, .int 0, .int 0, .int 0, .int 0, .int 0, .int 0, .int 0, .ref g1, .ref g2, .ref g3]), (nw, eO 5 [.ref n0, .int 0, .int 0, .ref n1, .ref n2, .ref n3]), (n0, eO 7 [.int 0, .int (-1)])] [(h0, eO 8 [.ref rd, .ref ho, .ref nw, .ref tr, .ref ts, .ref im, .null]), (ho, eO 0 [.int 0, .int 1, .int 0, .int 0, .int 0, .int 0, .int 0, .int 0, .int 0, .int 0, .ref g1, .ref g2, .ref g3])] [(nw, eO 5 [.ref n0, .int 0, .int 0, .ref n1, .ref n2, .ref n3]), (n0, eO 7 [.int 0, .int (-1)])] [0, 1] [2, 3] := ⟨rfl, rfl, rfl, rfl, by decide⟩
  refine cont_R C hP hD hS ct_1 (run_V (As := []) (rest := []) C hP hD hS ct_1 (c_reckoned l D ty h0 rd ho nw tr ts im g1 g2 g3) kV_PinchedBill_184 0 rfl rfl rfl rfl hl.1 rfl (nle rfl) d_X8_endless_1 ⟨by decide, by decide, by decide, by decide⟩) (fun r_18 w_19 H locs hw_17 hP hD hS => ?_)
  obtain ⟨rk_2, lw_3, l1_4, l2_5, l3_6, l4_7, w1_8, w2_9, m1_10, m2_11, m3_12, m4_13, m5_14, m6_15, m7_16, rfl, rfl⟩ := hw_17
  have hP : va_P D vwCl [(nw, eO 5 [.ref n0, .int 0, .int 0, .ref n1, .ref n2, .ref n3]), (n0, eO 7 [.int 0, .int (-1)]), (h0, eO 8 [.ref rd, .ref ho, .ref nw, .ref tr, .ref ts, .ref im, .ref rk_2]), (ho, eO 0 [.int 0, .int 1, .int 0, .int 0, .int 0, .int 0, .int 0, .int 0, .int 0, .int 0, .ref g1, .ref g2, .ref g3]), (rk_2, eO 4 [.ref lw_3, .ref w1_8, .ref w2_9, .int 0, .int 0, .int 0, .ref ho, .ref m1_10, .int 1, .ref m2_11, .ref m3_12, .int (-1), .ref m4_13, .int (-1), .ref m5_14, .ref m6_15, .ref m7_16, .int 0]), (lw_3, eO 2 [.ref ho, .ref l1_4, .ref l2_5, .ref l3_6, .ref l4_7]), (l1_4, eI (ty 0) 1000 (fun _ => 0)), (l2_5, eI (ty 0) 8000 (fun _ => 0)), (l3_6, eI (ty 0) 8 (fun _ => 0)), (l4_7, eI (ty 0) 64 (fun _ => 0)), (w1_8, eO 7 [.int 0, .int (-1)]), (w2_9, eO 7 [.int 0, .int (-1)]), (m1_10, eI (ty 0) 9000 (fun _ => 0)), (m2_11, eI (ty 0) 1000 (fun _ => 0)), (m3_12, eI (ty 0) 1000 (fun _ => 0)), (m4_13, eI (ty 0) 256 (fun _ => 0)), (m5_14, eI (ty 0) 8 (fun _ => 0)), (m6_15, eI (ty 0) 1000 (fun _ => 0)), (m7_16, eI (ty 0) 1000 (fun _ => 0))] H := hP
  have hD : va_D A [(nw, eO 5 [.ref n0, .int 0, .int 0, .ref n1, .ref n2, .ref n3]), (n0, eO 7 [.int 0, .int (-1)]), (h0, eO 8 [.ref rd, .ref ho, .ref nw, .ref tr, .ref ts, .ref im, .ref rk_2]), (ho, eO 0 [.int 0, .int 1, .int 0, .int 0, .int 0, .int 0, .int 0, .int 0, .int 0, .int 0, .ref g1, .ref g2, .ref g3]), (rk_2, eO 4 [.ref lw_3, .ref w1_8, .ref w2_9, .int 0, .int 0, .int 0, .ref ho, .ref m1_10, .int 1, .ref m2_11, .ref m3_12, .int (-1), .ref m4_13, .int (-1), .ref m5_14, .ref m6_15, .ref m7_16, .int 0]), (lw_3, eO 2 [.ref ho, .ref l1_4, .ref l2_5, .ref l3_6, .ref l4_7]), (l1_4, eI (ty 0) 1000 (fun _ => 0)), (l2_5, eI (ty 0) 8000 (fun _ => 0)), (l3_6, eI (ty 0) 8 (fun _ => 0)), (l4_7, eI (ty 0) 64 (fun _ => 0)), (w1_8, eO 7 [.int 0, .int (-1)]), (w2_9, eO 7 [.int 0, .int (-1)]), (m1_10, eI (ty 0) 9000 (fun _ => 0)), (m2_11, eI (ty 0) 1000 (fun _ => 0)), (m3_12, eI (ty 0) 1000 (fun _ => 0)), (m4_13, eI (ty 0) 256 (fun _ => 0)), (m5_14, eI (ty 0) 8 (fun _ => 0)), (m6_15, eI (ty 0) 1000 (fun _ => 0)), (m7_16, eI (ty 0) 1000 (fun _ => 0))] := hD
  refine lv_iconst (v := (-1)) hx hb d_X8_endless_4 (by decide) ?_
  refine lv_aload_n hx hb d_X8_endless_5 rfl (lv_at hl 0 rfl) ?_
  refine r_get (v := .ref nw) C hP 2 rfl rfl lay_X8 2 (by decide) k_322 rfl d_X8_endless_6 ?_
  refine r_get (v := .int 0) C hP 0 rfl rfl lay_X5 1 (by decide) k_297 rfl d_X8_endless_9 ?_
  have ct_20 : Cut [(nw, eO 5 [.ref n0, .int 0, .int 0, .ref n1, .ref n2, .ref n3]), (n0, eO 7 [.int 0, .int (-1)]), (h0, eO 8 [.ref rd, .ref ho, .ref nw, .ref tr, .ref ts, .ref im, .ref rk_2]), (ho, eO 0 [.int 0, .int 1, .int 0, .int 0, .int 0, .int 0, .int 0, .int 0, .int 0, .int 0, .ref g1, .ref g2, .ref g3]), (rk_2, eO 4 [.ref lw_3, .ref w1_8, .ref w2_9, .int 0, .int 0, .int 0, .ref ho, .ref m1_10, .int 1, .ref m2_11, .ref m3_12, .int (-1), .ref m4_13, .int (-1), .ref m5_14, .ref m6_15, .ref m7_16, .int 0]), (lw_3, eO 2 [.ref ho, .ref l1_4, .ref l2_5, .ref l3_6, .ref l4_7]), (l1_4, eI (ty 0) 1000 (fun _ => 0)), (l2_5, eI (ty 0) 8000 (fun _ => 0)), (l3_6, eI (ty 0) 8 (fun _ => 0)), (l4_7, eI (ty 0) 64 (fun _ => 0)), (w1_8, eO 7 [.int 0, .int (-1)]), (w2_9, eO 7 [.int 0, .int (-1)]), (m1_10, eI (ty 0) 9000 (fun _ => 0)), (m2_11, eI (ty 0) 1000 (fun _ => 0)), (m3_12, eI (ty 0) 1000 (fun _ => 0)), (m4_13, eI (ty 0) 256 (fun _ => 0)), (m5_14, eI (ty 0) 8 (fun _ => 0)), (m6_15, eI (ty 0) 1000 (fun _ => 0)), (m7_16, eI (ty 0) 1000 (fun _ => 0))] [(rk_2, eO 4 [.ref lw_3, .ref w1_8, .ref w2_9, .int 0, .int 0, .int 0, .ref ho, .ref m1_10, .int 1, .ref m2_11, .ref m3_12, .int (-1), .ref m4_13, .int (-1), .ref m5_14, .ref m6_15, .ref m7_16, .int 0]), (lw_3, eO 2 [.ref ho, .ref l1_4, .ref l2_5, .ref l3_6, .ref l4_7]), (ho, eO 0 [.int 0, .int 1, .int 0, .int 0, .int 0, .int 0, .int 0, .int 0, .int 0, .int 0, .ref g1, .ref g2, .ref g3]), (l1_4, eI (ty 0) 1000 (fun _ => 0)), (l3_6, eI (ty 0) 8 (fun _ => 0)), (w1_8, eO 7 [.int 0, .int (-1)]), (m1_10, eI (ty 0) 9000 (fun _ => 0)), (m2_11, eI (ty 0) 1000 (fun _ => 0)), (m3_12, eI (ty 0) 1000 (fun _ => 0))] [(nw, eO 5 [.ref n0, .int 0, .int 0, .ref n1, .ref n2, .ref n3]), (n0, eO 7 [.int 0, .int (-1)]), (h0, eO 8 [.ref rd, .ref ho, .ref nw, .ref tr, .ref ts, .ref im, .ref rk_2]), (l2_5, eI (ty 0) 8000 (fun _ => 0)), (l4_7, eI (ty 0) 64 (fun _ => 0)), (w2_9, eO 7 [.int 0, .int (-1)]), (m4_13, eI (ty 0) 256 (fun _ => 0)), (m5_14, eI (ty 0) 8 (fun _ => 0)), (m6_15, eI (ty 0) 1000 (fun _ => 0)), (m7_16, eI (ty 0) 1000 (fun _ => 0))] [4, 5, 3, 6, 8, 10, 12, 13, 14] [0, 1, 2, 7, 9, 11, 15, 16, 17, 18] := ⟨rfl, rfl, rfl, rfl, by decide⟩
  refine cont_I C hP hD hS ct_20 (run_V (As := [.int (-1), .int 0]) (rest := []) C hP hD hS ct_20 (c_howManyN l D ty rk_2 ho lw_3 l1_4 l2_5 l3_6 l4_7 w1_8 w2_9 m1_10 m2_11 m3_12 m4_13 m5_14 m6_15 m7_16 g1 g2 g3 0 0 0 (-1) 0 1 0 (-1) (fun _ => 0) (fun _ => 0) (fun _ => 0) (fun _ => 0) (fun _ => 0) B01_0 (by omega) MK_0) kV_PinchedBill_204 4 rfl rfl rfl rfl hl.1 rfl (nle rfl) d_X8_endless_12 ⟨by decide, by decide, by decide, by decide⟩) (fun r_22 w_23 H locs hw_21 hP hD hS => ?_)
  obtain ⟨rfl, rfl⟩ := hw_21
  have hP : va_P D vwCl [(nw, eO 5 [.ref n0, .int 0, .int 0, .ref n1, .ref n2, .ref n3]), (n0, eO 7 [.int 0, .int (-1)]), (h0, eO 8 [.ref rd, .ref ho, .ref nw, .ref tr, .ref ts, .ref im, .ref rk_2]), (l2_5, eI (ty 0) 8000 (fun _ => 0)), (l4_7, eI (ty 0) 64 (fun _ => 0)), (w2_9, eO 7 [.int 0, .int (-1)]), (m4_13, eI (ty 0) 256 (fun _ => 0)), (m5_14, eI (ty 0) 8 (fun _ => 0)), (m6_15, eI (ty 0) 1000 (fun _ => 0)), (m7_16, eI (ty 0) 1000 (fun _ => 0))] H := hP
  have hD : va_D A [(nw, eO 5 [.ref n0, .int 0, .int 0, .ref n1, .ref n2, .ref n3]), (n0, eO 7 [.int 0, .int (-1)]), (h0, eO 8 [.ref rd, .ref ho, .ref nw, .ref tr, .ref ts, .ref im, .ref rk_2]), (l2_5, eI (ty 0) 8000 (fun _ => 0)), (l4_7, eI (ty 0) 64 (fun _ => 0)), (w2_9, eO 7 [.int 0, .int (-1)]), (m4_13, eI (ty 0) 256 (fun _ => 0)), (m5_14, eI (ty 0) 8 (fun _ => 0)), (m6_15, eI (ty 0) 1000 (fun _ => 0)), (m7_16, eI (ty 0) 1000 (fun _ => 0))] := hD
  exact ret_I (w := []) C hP hD hS [] rfl rfl ⟨rfl, rfl⟩ (by decide) (by decide) d_X8_endless_15
set_option maxHeartbeats 4000000 in
set_option maxRecDepth 100000 in
theorem c_longestP (l : Launch) (D : va_G) (ty : Nat → ClassId) (h0 : Nat) (rd : Nat) (ho : Nat) (nw : Nat) (tr : Nat) (ts : Nat) (im : Nat) (g1 : Nat) (g2 : Nat) (g3 : Nat) (n0 : Nat) (n1 : Nat) (n2 : Nat) (n3 : Nat) : CC l D ty ⟨"PinchedBill", "longest", "()I"⟩ prog_1_method_27_code 1 (some .int) 7 162 15 22363 [.ref h0] [(h0, eO 8 [.ref rd, .ref ho, .ref nw, .ref tr, .ref ts, .ref im, .null]), (ho, eO 0 [.int 0, .int 1, .int 0, .int 0, .int 0, .int 0, .int 0, .int 0, .int 0, .int 0, .ref g1, .ref g2, .ref g3]), (nw, eO 5 [.ref n0, .int 0, .int 0, .ref n1, .ref n2, .ref n3]), (n0, eO 7 [.int 0, .int (-1)])] (QI D ty (fun (r : Int32) (w : va_W) => 0 = r ∧ w = [])) := by
  refine CC_of (by decide) ?_
  intro p e s m below meth c A C hP hD hS
  obtain ⟨⟨hx, hb, hml, hown, hts⟩, hr, hlocks, hnm, hK, hE, hA, hZ⟩ := id C
  refine startW [.ref h0] 1 (nle rfl) (lv := [(0, .ref h0)]) rfl (fun ls hl => ?_)
  refine lv_aload_n hx hb d_X8_longest_0 rfl (lv_at hl 0 rfl) ?_
  have ct_1 : Cut [(h0, eO 8 [.ref rd, .ref ho, .ref nw, .ref tr, .ref ts, .ref im, .null]), (ho, eO 0 [.int 0, .int 1, .int 0, .int 0, .int 0, .int 0, .int 0, .int 0, .int 0, .int 0, .ref g1, .ref g2, .ref g3]), (nw, eO 5 [.ref n0, .int 0, .int 0, .ref n1, .ref n2, .ref n3]), (n0, eO 7 [.int 0, .int (-1)])] [(h0, eO 8 [.ref rd, .ref ho, .ref nw, .ref tr, .ref ts, .ref im, .null]), (ho, eO 0 [.int 0, .int 1, .int 0, .int 0, .int 0, .int 0, .int 0, .int 0, .int 0, .int 0, .ref g1, .ref g2, .ref g3])] [(nw, eO 5 [.ref n0, .int 0, .int 0, .ref n1, .ref n2, .ref n3]), (n0, eO 7 [.int 0, .int (-1)])] [0, 1] [2, 3] := ⟨rfl, rfl, rfl, rfl, by decide⟩
  refine cont_R C hP hD hS ct_1 (run_V (As := []) (rest := []) C hP hD hS ct_1 (c_reckoned l D ty h0 rd ho nw tr ts im g1 g2 g3) kV_PinchedBill_184 0 rfl rfl rfl rfl hl.1 rfl (nle rfl) d_X8_longest_1 ⟨by decide, by decide, by decide, by decide⟩) (fun r_18 w_19 H locs hw_17 hP hD hS => ?_)
  obtain ⟨rk_2, lw_3, l1_4, l2_5, l3_6, l4_7, w1_8, w2_9, m1_10, m2_11, m3_12, m4_13, m5_14, m6_15, m7_16, rfl, rfl⟩ := hw_17
  have hP : va_P D vwCl [(nw, eO 5 [.ref n0, .int 0, .int 0, .ref n1, .ref n2, .ref n3]), (n0, eO 7 [.int 0, .int (-1)]), (h0, eO 8 [.ref rd, .ref ho, .ref nw, .ref tr, .ref ts, .ref im, .ref rk_2]), (ho, eO 0 [.int 0, .int 1, .int 0, .int 0, .int 0, .int 0, .int 0, .int 0, .int 0, .int 0, .ref g1, .ref g2, .ref g3]), (rk_2, eO 4 [.ref lw_3, .ref w1_8, .ref w2_9, .int 0, .int 0, .int 0, .ref ho, .ref m1_10, .int 1, .ref m2_11, .ref m3_12, .int (-1), .ref m4_13, .int (-1), .ref m5_14, .ref m6_15, .ref m7_16, .int 0]), (lw_3, eO 2 [.ref ho, .ref l1_4, .ref l2_5, .ref l3_6, .ref l4_7]), (l1_4, eI (ty 0) 1000 (fun _ => 0)), (l2_5, eI (ty 0) 8000 (fun _ => 0)), (l3_6, eI (ty 0) 8 (fun _ => 0)), (l4_7, eI (ty 0) 64 (fun _ => 0)), (w1_8, eO 7 [.int 0, .int (-1)]), (w2_9, eO 7 [.int 0, .int (-1)]), (m1_10, eI (ty 0) 9000 (fun _ => 0)), (m2_11, eI (ty 0) 1000 (fun _ => 0)), (m3_12, eI (ty 0) 1000 (fun _ => 0)), (m4_13, eI (ty 0) 256 (fun _ => 0)), (m5_14, eI (ty 0) 8 (fun _ => 0)), (m6_15, eI (ty 0) 1000 (fun _ => 0)), (m7_16, eI (ty 0) 1000 (fun _ => 0))] H := hP
  have hD : va_D A [(nw, eO 5 [.ref n0, .int 0, .int 0, .ref n1, .ref n2, .ref n3]), (n0, eO 7 [.int 0, .int (-1)]), (h0, eO 8 [.ref rd, .ref ho, .ref nw, .ref tr, .ref ts, .ref im, .ref rk_2]), (ho, eO 0 [.int 0, .int 1, .int 0, .int 0, .int 0, .int 0, .int 0, .int 0, .int 0, .int 0, .ref g1, .ref g2, .ref g3]), (rk_2, eO 4 [.ref lw_3, .ref w1_8, .ref w2_9, .int 0, .int 0, .int 0, .ref ho, .ref m1_10, .int 1, .ref m2_11, .ref m3_12, .int (-1), .ref m4_13, .int (-1), .ref m5_14, .ref m6_15, .ref m7_16, .int 0]), (lw_3, eO 2 [.ref ho, .ref l1_4, .ref l2_5, .ref l3_6, .ref l4_7]), (l1_4, eI (ty 0) 1000 (fun _ => 0)), (l2_5, eI (ty 0) 8000 (fun _ => 0)), (l3_6, eI (ty 0) 8 (fun _ => 0)), (l4_7, eI (ty 0) 64 (fun _ => 0)), (w1_8, eO 7 [.int 0, .int (-1)]), (w2_9, eO 7 [.int 0, .int (-1)]), (m1_10, eI (ty 0) 9000 (fun _ => 0)), (m2_11, eI (ty 0) 1000 (fun _ => 0)), (m3_12, eI (ty 0) 1000 (fun _ => 0)), (m4_13, eI (ty 0) 256 (fun _ => 0)), (m5_14, eI (ty 0) 8 (fun _ => 0)), (m6_15, eI (ty 0) 1000 (fun _ => 0)), (m7_16, eI (ty 0) 1000 (fun _ => 0))] := hD
  refine lv_aload_n hx hb d_X8_longest_4 rfl (lv_at hl 0 rfl) ?_
  refine r_get (v := .ref nw) C hP 2 rfl rfl lay_X8 2 (by decide) k_322 rfl d_X8_longest_5 ?_
  refine r_get (v := .int 0) C hP 0 rfl rfl lay_X5 1 (by decide) k_297 rfl d_X8_longest_8 ?_
  have ct_20 : Cut [(nw, eO 5 [.ref n0, .int 0, .int 0, .ref n1, .ref n2, .ref n3]), (n0, eO 7 [.int 0, .int (-1)]), (h0, eO 8 [.ref rd, .ref ho, .ref nw, .ref tr, .ref ts, .ref im, .ref rk_2]), (ho, eO 0 [.int 0, .int 1, .int 0, .int 0, .int 0, .int 0, .int 0, .int 0, .int 0, .int 0, .ref g1, .ref g2, .ref g3]), (rk_2, eO 4 [.ref lw_3, .ref w1_8, .ref w2_9, .int 0, .int 0, .int 0, .ref ho, .ref m1_10, .int 1, .ref m2_11, .ref m3_12, .int (-1), .ref m4_13, .int (-1), .ref m5_14, .ref m6_15, .ref m7_16, .int 0]), (lw_3, eO 2 [.ref ho, .ref l1_4, .ref l2_5, .ref l3_6, .ref l4_7]), (l1_4, eI (ty 0) 1000 (fun _ => 0)), (l2_5, eI (ty 0) 8000 (fun _ => 0)), (l3_6, eI (ty 0) 8 (fun _ => 0)), (l4_7, eI (ty 0) 64 (fun _ => 0)), (w1_8, eO 7 [.int 0, .int (-1)]), (w2_9, eO 7 [.int 0, .int (-1)]), (m1_10, eI (ty 0) 9000 (fun _ => 0)), (m2_11, eI (ty 0) 1000 (fun _ => 0)), (m3_12, eI (ty 0) 1000 (fun _ => 0)), (m4_13, eI (ty 0) 256 (fun _ => 0)), (m5_14, eI (ty 0) 8 (fun _ => 0)), (m6_15, eI (ty 0) 1000 (fun _ => 0)), (m7_16, eI (ty 0) 1000 (fun _ => 0))] [(rk_2, eO 4 [.ref lw_3, .ref w1_8, .ref w2_9, .int 0, .int 0, .int 0, .ref ho, .ref m1_10, .int 1, .ref m2_11, .ref m3_12, .int (-1), .ref m4_13, .int (-1), .ref m5_14, .ref m6_15, .ref m7_16, .int 0]), (lw_3, eO 2 [.ref ho, .ref l1_4, .ref l2_5, .ref l3_6, .ref l4_7]), (ho, eO 0 [.int 0, .int 1, .int 0, .int 0, .int 0, .int 0, .int 0, .int 0, .int 0, .int 0, .ref g1, .ref g2, .ref g3]), (l1_4, eI (ty 0) 1000 (fun _ => 0)), (l3_6, eI (ty 0) 8 (fun _ => 0)), (w1_8, eO 7 [.int 0, .int (-1)]), (m1_10, eI (ty 0) 9000 (fun _ => 0)), (m2_11, eI (ty 0) 1000 (fun _ => 0)), (m3_12, eI (ty 0) 1000 (fun _ => 0))] [(nw, eO 5 [.ref n0, .int 0, .int 0, .ref n1, .ref n2, .ref n3]), (n0, eO 7 [.int 0, .int (-1)]), (h0, eO 8 [.ref rd, .ref ho, .ref nw, .ref tr, .ref ts, .ref im, .ref rk_2]), (l2_5, eI (ty 0) 8000 (fun _ => 0)), (l4_7, eI (ty 0) 64 (fun _ => 0)), (w2_9, eO 7 [.int 0, .int (-1)]), (m4_13, eI (ty 0) 256 (fun _ => 0)), (m5_14, eI (ty 0) 8 (fun _ => 0)), (m6_15, eI (ty 0) 1000 (fun _ => 0)), (m7_16, eI (ty 0) 1000 (fun _ => 0))] [4, 5, 3, 6, 8, 10, 12, 13, 14] [0, 1, 2, 7, 9, 11, 15, 16, 17, 18] := ⟨rfl, rfl, rfl, rfl, by decide⟩
  refine cont_I C hP hD hS ct_20 (run_V (As := [.int 0]) (rest := []) C hP hD hS ct_20 (c_longest l D ty rk_2 ho lw_3 l1_4 l2_5 l3_6 l4_7 w1_8 w2_9 m1_10 m2_11 m3_12 m4_13 m5_14 m6_15 m7_16 g1 g2 g3 0 0 0 (-1) 0 1 0 (-1) (fun _ => 0) (fun _ => 0) (fun _ => 0) (fun _ => 0) (fun _ => 0) B01_0 (by omega) MK_0) kV_PinchedBill_207 4 rfl rfl rfl rfl hl.1 rfl (nle rfl) d_X8_longest_11 ⟨by decide, by decide, by decide, by decide⟩) (fun r_22 w_23 H locs hw_21 hP hD hS => ?_)
  obtain ⟨rfl, rfl⟩ := hw_21
  have hP : va_P D vwCl [(nw, eO 5 [.ref n0, .int 0, .int 0, .ref n1, .ref n2, .ref n3]), (n0, eO 7 [.int 0, .int (-1)]), (h0, eO 8 [.ref rd, .ref ho, .ref nw, .ref tr, .ref ts, .ref im, .ref rk_2]), (l2_5, eI (ty 0) 8000 (fun _ => 0)), (l4_7, eI (ty 0) 64 (fun _ => 0)), (w2_9, eO 7 [.int 0, .int (-1)]), (m4_13, eI (ty 0) 256 (fun _ => 0)), (m5_14, eI (ty 0) 8 (fun _ => 0)), (m6_15, eI (ty 0) 1000 (fun _ => 0)), (m7_16, eI (ty 0) 1000 (fun _ => 0))] H := hP
  have hD : va_D A [(nw, eO 5 [.ref n0, .int 0, .int 0, .ref n1, .ref n2, .ref n3]), (n0, eO 7 [.int 0, .int (-1)]), (h0, eO 8 [.ref rd, .ref ho, .ref nw, .ref tr, .ref ts, .ref im, .ref rk_2]), (l2_5, eI (ty 0) 8000 (fun _ => 0)), (l4_7, eI (ty 0) 64 (fun _ => 0)), (w2_9, eO 7 [.int 0, .int (-1)]), (m4_13, eI (ty 0) 256 (fun _ => 0)), (m5_14, eI (ty 0) 8 (fun _ => 0)), (m6_15, eI (ty 0) 1000 (fun _ => 0)), (m7_16, eI (ty 0) 1000 (fun _ => 0))] := hD
  exact ret_I (w := []) C hP hD hS [] rfl rfl ⟨rfl, rfl⟩ (by decide) (by decide) d_X8_longest_14

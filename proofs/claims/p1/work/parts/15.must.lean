theorem d_X8_mustBeWithin_0 : decode prog_1_method_49_code 0 = .ok (.iload_n 0, 1) := by decide +kernel
theorem d_X8_mustBeWithin_1 : decode prog_1_method_49_code 1 = .ok (.iload_n 1, 1) := by decide +kernel
theorem d_X8_mustBeWithin_2 : decode prog_1_method_49_code 2 = .ok (.if_icmp .lt 8, 3) := by decide +kernel
theorem at_PinchedBill_322 : (vx_atS "PinchedBill" 322 "java/lang/IllegalArgumentException" ["java/lang/RuntimeException", "java/lang/Exception"]).filter goodWord = ([124, 686, 695, 700, 703, 705, 687, 688, 149, 150, 689, 694, 701, 721, 676, 722, 678, 723, 680, 690, 692, 682, 717, 718, 720, 682, 708, 709, 710, 711, 711, 712, 713, 714, 714, 715, 716, 717, 707, 665, 673, 674, 675, 677, 679, 681, 685, 684, 683] : List Nat).filterMap (fun i => lw_tbl[i]?) := by decide +kernel
theorem bd_PinchedBill_322 : ((vx_atS "PinchedBill" 322 "java/lang/IllegalArgumentException" ["java/lang/RuntimeException", "java/lang/Exception"]).filter (fun w => !goodWord w)).all (fun w => decide (w = Cond.castable "java/lang/IllegalArgumentException" "java/lang/IllegalArgumentException") || decls.any (fun y => decide (w = Cond.declares y))) = true := by decide +kernel
theorem gt_PinchedBill_318_322 : (Cond.classLink "PinchedBill" 318 "java/lang/IllegalArgumentException" :: Cond.initialized "java/lang/IllegalArgumentException" :: (vx_atS "PinchedBill" 322 "java/lang/IllegalArgumentException" ["java/lang/RuntimeException", "java/lang/Exception"])).all vx_ot = true := by decide +kernel
theorem k_664 : Cond.classLink "PinchedBill" 318 "java/lang/IllegalArgumentException" ∈ gd_tbl := gd_in 664 (by decide +kernel) (by decide +kernel)
theorem k_127 : Cond.initialized "java/lang/IllegalArgumentException" ∈ gd_tbl := gd_in 127 (by decide +kernel) (by decide +kernel)
theorem d_X8_mustBeWithin_10 : decode prog_1_method_49_code 10 = .ok (.new 318, 3) := by decide +kernel
theorem d_X8_mustBeWithin_13 : decode prog_1_method_49_code 13 = .ok (.dup, 1) := by decide +kernel
theorem d_X8_mustBeWithin_14 : decode prog_1_method_49_code 14 = .ok (.ldc_w 320, 3) := by decide +kernel
theorem d_X8_mustBeWithin_17 : decode prog_1_method_49_code 17 = .ok (.invokespecial 322, 3) := by decide +kernel
theorem d_X8_mustBeWithin_20 : decode prog_1_method_49_code 20 = .ok (.athrow, 1) := by decide +kernel
theorem d_X8_mustBeWithin_5 : decode prog_1_method_49_code 5 = .ok (.iload_n 0, 1) := by decide +kernel
theorem d_X8_mustBeWithin_6 : decode prog_1_method_49_code 6 = .ok (.iload_n 2, 1) := by decide +kernel
theorem d_X8_mustBeWithin_7 : decode prog_1_method_49_code 7 = .ok (.if_icmp .le 14, 3) := by decide +kernel
theorem d_X8_mustBeWithin_21 : decode prog_1_method_49_code 21 = .ok (.return_, 1) := by decide +kernel
theorem d_X8_mustNotBeBelow0_0 : decode prog_1_method_50_code 0 = .ok (.iload_n 0, 1) := by decide +kernel
theorem d_X8_mustNotBeBelow0_1 : decode prog_1_method_50_code 1 = .ok (.ifCond .ge 14, 3) := by decide +kernel
theorem d_X8_mustNotBeBelow0_15 : decode prog_1_method_50_code 15 = .ok (.return_, 1) := by decide +kernel
theorem d_X8_mustNotBeBelow0_4 : decode prog_1_method_50_code 4 = .ok (.new 318, 3) := by decide +kernel
theorem d_X8_mustNotBeBelow0_7 : decode prog_1_method_50_code 7 = .ok (.dup, 1) := by decide +kernel
theorem d_X8_mustNotBeBelow0_8 : decode prog_1_method_50_code 8 = .ok (.ldc_w 323, 3) := by decide +kernel
theorem d_X8_mustNotBeBelow0_11 : decode prog_1_method_50_code 11 = .ok (.invokespecial 322, 3) := by decide +kernel
theorem d_X8_mustNotBeBelow0_14 : decode prog_1_method_50_code 14 = .ok (.athrow, 1) := by decide +kernel
theorem d_X8_mustBeBill_0 : decode prog_1_method_51_code 0 = .ok (.aload_n 0, 1) := by decide +kernel
theorem d_X8_mustBeBill_1 : decode prog_1_method_51_code 1 = .ok (.getfield 19, 3) := by decide +kernel
theorem d_X8_mustBeBill_4 : decode prog_1_method_51_code 4 = .ok (.iload_n 1, 1) := by decide +kernel
theorem k_533 : Cond.code ⟨"PinchedBill$House", "isBill", "(I)Z"⟩ prog_2_method_7_code 2 (some .boolean) ∈ gd_tbl := gd_in 533 (by decide +kernel) (by decide +kernel)
theorem k_530 : Cond.methodLink "PinchedBill" 325 ⟨"PinchedBill$House", "isBill", "(I)Z"⟩ ∈ gd_tbl := gd_in 530 (by decide +kernel) (by decide +kernel)
theorem k_531 : Cond.instanceMethod ⟨"PinchedBill$House", "isBill", "(I)Z"⟩ ∈ gd_tbl := gd_in 531 (by decide +kernel) (by decide +kernel)
theorem k_532 : Cond.selects "PinchedBill$House" ⟨"PinchedBill$House", "isBill", "(I)Z"⟩ ⟨"PinchedBill$House", "isBill", "(I)Z"⟩ ∈ gd_tbl := gd_in 532 (by decide +kernel) (by decide +kernel)
theorem kV_PinchedBill_325 : kV "PinchedBill" 325 ⟨"PinchedBill$House", "isBill", "(I)Z"⟩ prog_2_method_7_code 2 (some .boolean) 1 := ⟨k_530, k_531, k_532, k_119, k_533, by decide, by decide, by decide +kernel⟩
theorem d_X8_mustBeBill_5 : decode prog_1_method_51_code 5 = .ok (.invokevirtual 325, 3) := by decide +kernel
theorem d_X8_mustBeBill_8 : decode prog_1_method_51_code 8 = .ok (.ifCond .ne 14, 3) := by decide +kernel
theorem d_X8_mustBeBill_22 : decode prog_1_method_51_code 22 = .ok (.return_, 1) := by decide +kernel
theorem d_X8_mustBeBill_11 : decode prog_1_method_51_code 11 = .ok (.new 318, 3) := by decide +kernel
theorem d_X8_mustBeBill_14 : decode prog_1_method_51_code 14 = .ok (.dup, 1) := by decide +kernel
theorem d_X8_mustBeBill_15 : decode prog_1_method_51_code 15 = .ok (.ldc_w 328, 3) := by decide +kernel
theorem d_X8_mustBeBill_18 : decode prog_1_method_51_code 18 = .ok (.invokespecial 322, 3) := by decide +kernel
theorem d_X8_mustBeBill_21 : decode prog_1_method_51_code 21 = .ok (.athrow, 1) := by decide +kernel
theorem d_X8_mustBePerson_0 : decode prog_1_method_52_code 0 = .ok (.iload_n 1, 1) := by decide +kernel
theorem d_X8_mustBePerson_1 : decode prog_1_method_52_code 1 = .ok (.ifCond .lt 14, 3) := by decide +kernel
theorem at_PinchedBill_334 : (vx_atN "PinchedBill" 334 "java/util/NoSuchElementException" 13 prog_31_method_4_code "java/lang/RuntimeException" ["java/lang/Exception"]).filter goodWord = ([124, 686, 695, 700, 703, 705, 687, 688, 149, 150, 689, 694, 701, 721, 676, 722, 678, 723, 680, 690, 692, 682, 717, 718, 720, 682, 1010, 1011, 1012, 711, 711, 712, 713, 714, 714, 715, 716, 717, 1009, 1000, 1002, 699, 1003, 1004, 1005, 1006, 685, 684, 1007] : List Nat).filterMap (fun i => lw_tbl[i]?) := by decide +kernel
theorem bd_PinchedBill_334 : ((vx_atN "PinchedBill" 334 "java/util/NoSuchElementException" 13 prog_31_method_4_code "java/lang/RuntimeException" ["java/lang/Exception"]).filter (fun w => !goodWord w)).all (fun w => decide (w = Cond.castable "java/util/NoSuchElementException" "java/util/NoSuchElementException") || decls.any (fun y => decide (w = Cond.declares y))) = true := by decide +kernel
theorem gt_PinchedBill_330_334 : (Cond.classLink "PinchedBill" 330 "java/util/NoSuchElementException" :: Cond.initialized "java/util/NoSuchElementException" :: (vx_atN "PinchedBill" 334 "java/util/NoSuchElementException" 13 prog_31_method_4_code "java/lang/RuntimeException" ["java/lang/Exception"])).all vx_ot = true := by decide +kernel
theorem nse_0 : decode prog_31_method_4_code 0 = .ok (.aload_n 0, 1) := by decide +kernel
theorem nse_1 : decode prog_31_method_4_code 1 = .ok (.aload_n 1, 1) := by decide +kernel
theorem nse_2 : decode prog_31_method_4_code 2 = .ok (.invokespecial 13, 3) := by decide +kernel
theorem nse_5 : decode prog_31_method_4_code 5 = .ok (.return_, 1) := by decide +kernel
theorem k_999 : Cond.classLink "PinchedBill" 330 "java/util/NoSuchElementException" ∈ gd_tbl := gd_in 999 (by decide +kernel) (by decide +kernel)
theorem k_135 : Cond.initialized "java/util/NoSuchElementException" ∈ gd_tbl := gd_in 135 (by decide +kernel) (by decide +kernel)
theorem d_X8_mustBePerson_15 : decode prog_1_method_52_code 15 = .ok (.new 330, 3) := by decide +kernel
theorem d_X8_mustBePerson_18 : decode prog_1_method_52_code 18 = .ok (.dup, 1) := by decide +kernel
theorem d_X8_mustBePerson_19 : decode prog_1_method_52_code 19 = .ok (.ldc_w 332, 3) := by decide +kernel
theorem d_X8_mustBePerson_22 : decode prog_1_method_52_code 22 = .ok (.invokespecial 334, 3) := by decide +kernel
theorem d_X8_mustBePerson_25 : decode prog_1_method_52_code 25 = .ok (.athrow, 1) := by decide +kernel
theorem d_X8_mustBePerson_4 : decode prog_1_method_52_code 4 = .ok (.iload_n 1, 1) := by decide +kernel
theorem d_X8_mustBePerson_5 : decode prog_1_method_52_code 5 = .ok (.aload_n 0, 1) := by decide +kernel
theorem d_X8_mustBePerson_6 : decode prog_1_method_52_code 6 = .ok (.getfield 19, 3) := by decide +kernel
theorem k_174 : Cond.fieldLink "PinchedBill" 224 "PinchedBill$House" "people" "I" ∈ gd_tbl := gd_in 174 (by decide +kernel) (by decide +kernel)
theorem d_X8_mustBePerson_9 : decode prog_1_method_52_code 9 = .ok (.getfield 224, 3) := by decide +kernel
theorem d_X8_mustBePerson_12 : decode prog_1_method_52_code 12 = .ok (.if_icmp .lt 14, 3) := by decide +kernel
theorem d_X8_mustBeImage_0 : decode prog_1_method_53_code 0 = .ok (.iload_n 0, 1) := by decide +kernel
theorem d_X8_mustBeImage_1 : decode prog_1_method_53_code 1 = .ok (.ifCond .lt 8, 3) := by decide +kernel
theorem d_X8_mustBeImage_9 : decode prog_1_method_53_code 9 = .ok (.new 330, 3) := by decide +kernel
theorem d_X8_mustBeImage_12 : decode prog_1_method_53_code 12 = .ok (.dup, 1) := by decide +kernel
theorem d_X8_mustBeImage_13 : decode prog_1_method_53_code 13 = .ok (.ldc_w 335, 3) := by decide +kernel
theorem d_X8_mustBeImage_16 : decode prog_1_method_53_code 16 = .ok (.invokespecial 334, 3) := by decide +kernel
theorem d_X8_mustBeImage_19 : decode prog_1_method_53_code 19 = .ok (.athrow, 1) := by decide +kernel
theorem d_X8_mustBeImage_4 : decode prog_1_method_53_code 4 = .ok (.iload_n 0, 1) := by decide +kernel
theorem d_X8_mustBeImage_5 : decode prog_1_method_53_code 5 = .ok (.iconst 3, 1) := by decide +kernel
theorem d_X8_mustBeImage_6 : decode prog_1_method_53_code 6 = .ok (.if_icmp .lt 14, 3) := by decide +kernel
theorem d_X8_mustBeImage_20 : decode prog_1_method_53_code 20 = .ok (.return_, 1) := by decide +kernel
theorem d_X8_mustBeTray_0 : decode prog_1_method_54_code 0 = .ok (.iload_n 0, 1) := by decide +kernel
theorem d_X8_mustBeTray_1 : decode prog_1_method_54_code 1 = .ok (.ifCond .lt 8, 3) := by decide +kernel
theorem d_X8_mustBeTray_9 : decode prog_1_method_54_code 9 = .ok (.new 330, 3) := by decide +kernel
theorem d_X8_mustBeTray_12 : decode prog_1_method_54_code 12 = .ok (.dup, 1) := by decide +kernel
theorem d_X8_mustBeTray_13 : decode prog_1_method_54_code 13 = .ok (.ldc_w 337, 3) := by decide +kernel
theorem d_X8_mustBeTray_16 : decode prog_1_method_54_code 16 = .ok (.invokespecial 334, 3) := by decide +kernel
theorem d_X8_mustBeTray_19 : decode prog_1_method_54_code 19 = .ok (.athrow, 1) := by decide +kernel
theorem d_X8_mustBeTray_4 : decode prog_1_method_54_code 4 = .ok (.iload_n 0, 1) := by decide +kernel
theorem d_X8_mustBeTray_5 : decode prog_1_method_54_code 5 = .ok (.iconst 4, 1) := by decide +kernel
theorem d_X8_mustBeTray_6 : decode prog_1_method_54_code 6 = .ok (.if_icmp .lt 14, 3) := by decide +kernel
theorem d_X8_mustBeTray_20 : decode prog_1_method_54_code 20 = .ok (.return_, 1) := by decide +kernel
theorem d_X8_trayThere_0 : decode prog_1_method_55_code 0 = .ok (.iload_n 1, 1) := by decide +kernel
theorem k_1077 : Cond.code ⟨"PinchedBill", "mustBeTray", "(I)V"⟩ prog_1_method_54_code 1 none ∈ gd_tbl := gd_in 1077 (by decide +kernel) (by decide +kernel)
theorem k_1075 : Cond.methodLink "PinchedBill" 276 ⟨"PinchedBill", "mustBeTray", "(I)V"⟩ ∈ gd_tbl := gd_in 1075 (by decide +kernel) (by decide +kernel)
theorem k_1076 : Cond.static ⟨"PinchedBill", "mustBeTray", "(I)V"⟩ ∈ gd_tbl := gd_in 1076 (by decide +kernel) (by decide +kernel)
theorem kS_PinchedBill_276 : kS "PinchedBill" 276 ⟨"PinchedBill", "mustBeTray", "(I)V"⟩ prog_1_method_54_code 1 none 1 := ⟨k_1075, k_1076, k_117, k_1077, by decide, by decide, by decide +kernel⟩
theorem d_X8_trayThere_1 : decode prog_1_method_55_code 1 = .ok (.invokestatic 276, 3) := by decide +kernel
theorem d_X8_trayThere_4 : decode prog_1_method_55_code 4 = .ok (.aload_n 0, 1) := by decide +kernel
theorem d_X8_trayThere_5 : decode prog_1_method_55_code 5 = .ok (.getfield 35, 3) := by decide +kernel
theorem d_X8_trayThere_8 : decode prog_1_method_55_code 8 = .ok (.iload_n 1, 1) := by decide +kernel
theorem d_X8_trayThere_9 : decode prog_1_method_55_code 9 = .ok (.aaload, 1) := by decide +kernel
theorem d_X8_trayThere_10 : decode prog_1_method_55_code 10 = .ok (.astore_n 2, 1) := by decide +kernel
theorem d_X8_trayThere_11 : decode prog_1_method_55_code 11 = .ok (.aload_n 2, 1) := by decide +kernel
theorem d_X8_trayThere_12 : decode prog_1_method_55_code 12 = .ok (.ifnonnull 14, 3) := by decide +kernel
theorem at_PinchedBill_310 : (vx_atS "PinchedBill" 310 "java/lang/IllegalStateException" ["java/lang/RuntimeException", "java/lang/Exception"]).filter goodWord = ([124, 686, 695, 700, 703, 705, 687, 688, 149, 150, 689, 694, 701, 721, 676, 722, 678, 723, 680, 690, 692, 682, 717, 718, 720, 682, 1090, 1091, 1092, 711, 711, 712, 713, 714, 714, 715, 716, 717, 1089, 1080, 1082, 697, 1083, 1084, 1085, 1086, 685, 684, 1087] : List Nat).filterMap (fun i => lw_tbl[i]?) := by decide +kernel
theorem bd_PinchedBill_310 : ((vx_atS "PinchedBill" 310 "java/lang/IllegalStateException" ["java/lang/RuntimeException", "java/lang/Exception"]).filter (fun w => !goodWord w)).all (fun w => decide (w = Cond.castable "java/lang/IllegalStateException" "java/lang/IllegalStateException") || decls.any (fun y => decide (w = Cond.declares y))) = true := by decide +kernel
theorem gt_PinchedBill_306_310 : (Cond.classLink "PinchedBill" 306 "java/lang/IllegalStateException" :: Cond.initialized "java/lang/IllegalStateException" :: (vx_atS "PinchedBill" 310 "java/lang/IllegalStateException" ["java/lang/RuntimeException", "java/lang/Exception"])).all vx_ot = true := by decide +kernel
theorem k_1079 : Cond.classLink "PinchedBill" 306 "java/lang/IllegalStateException" ∈ gd_tbl := gd_in 1079 (by decide +kernel) (by decide +kernel)
theorem k_139 : Cond.initialized "java/lang/IllegalStateException" ∈ gd_tbl := gd_in 139 (by decide +kernel) (by decide +kernel)
theorem d_X8_trayThere_15 : decode prog_1_method_55_code 15 = .ok (.new 306, 3) := by decide +kernel
theorem d_X8_trayThere_18 : decode prog_1_method_55_code 18 = .ok (.dup, 1) := by decide +kernel
theorem d_X8_trayThere_19 : decode prog_1_method_55_code 19 = .ok (.ldc_w 339, 3) := by decide +kernel
theorem d_X8_trayThere_22 : decode prog_1_method_55_code 22 = .ok (.invokespecial 310, 3) := by decide +kernel
theorem d_X8_trayThere_25 : decode prog_1_method_55_code 25 = .ok (.athrow, 1) := by decide +kernel
theorem d_X8_traySeen_0 : decode prog_1_method_56_code 0 = .ok (.aload_n 0, 1) := by decide +kernel
theorem d_X8_traySeen_1 : decode prog_1_method_56_code 1 = .ok (.iload_n 1, 1) := by decide +kernel
theorem k_1074 : Cond.code ⟨"PinchedBill", "trayThere", "(I)LPinchedBill$Tray;"⟩ prog_1_method_55_code 3 (some (.object "PinchedBill$Tray")) ∈ gd_tbl := gd_in 1074 (by decide +kernel) (by decide +kernel)
theorem k_1071 : Cond.methodLink "PinchedBill" 145 ⟨"PinchedBill", "trayThere", "(I)LPinchedBill$Tray;"⟩ ∈ gd_tbl := gd_in 1071 (by decide +kernel) (by decide +kernel)
theorem k_1073 : Cond.instanceMethod ⟨"PinchedBill", "trayThere", "(I)LPinchedBill$Tray;"⟩ ∈ gd_tbl := gd_in 1073 (by decide +kernel) (by decide +kernel)
theorem k_36 : Cond.selects "PinchedBill" ⟨"PinchedBill", "trayThere", "(I)LPinchedBill$Tray;"⟩ ⟨"PinchedBill", "trayThere", "(I)LPinchedBill$Tray;"⟩ ∈ gd_tbl := gd_in 36 (by decide +kernel) (by decide +kernel)
theorem kV_PinchedBill_145 : kV "PinchedBill" 145 ⟨"PinchedBill", "trayThere", "(I)LPinchedBill$Tray;"⟩ prog_1_method_55_code 3 (some (.object "PinchedBill$Tray")) 1 := ⟨k_1071, k_1073, k_36, k_117, k_1074, by decide, by decide, by decide +kernel⟩
theorem d_X8_traySeen_2 : decode prog_1_method_56_code 2 = .ok (.invokevirtual 145, 3) := by decide +kernel
theorem d_X8_reckoned_0 : decode prog_1_method_57_code 0 = .ok (.aload_n 0, 1) := by decide +kernel
theorem k_326 : Cond.fieldLink "PinchedBill" 345 "PinchedBill" "reckoner" "LPinchedBill$Reckoner;" ∈ gd_tbl := gd_in 326 (by decide +kernel) (by decide +kernel)
theorem d_X8_reckoned_1 : decode prog_1_method_57_code 1 = .ok (.getfield 345, 3) := by decide +kernel
theorem d_X8_reckoned_4 : decode prog_1_method_57_code 4 = .ok (.ifnonnull 18, 3) := by decide +kernel
theorem d_X8_reckoned_7 : decode prog_1_method_57_code 7 = .ok (.aload_n 0, 1) := by decide +kernel
theorem k_374 : Cond.classLink "PinchedBill" 177 "PinchedBill$Reckoner" ∈ gd_tbl := gd_in 374 (by decide +kernel) (by decide +kernel)
theorem k_375 : Cond.instantiable "PinchedBill$Reckoner" 18 ∈ gd_tbl := gd_in 375 (by decide +kernel) (by decide +kernel)
theorem d_X8_reckoned_8 : decode prog_1_method_57_code 8 = .ok (.new 177, 3) := by decide +kernel
theorem d_X8_reckoned_11 : decode prog_1_method_57_code 11 = .ok (.dup, 1) := by decide +kernel
theorem d_X8_reckoned_12 : decode prog_1_method_57_code 12 = .ok (.aload_n 0, 1) := by decide +kernel
theorem d_X8_reckoned_13 : decode prog_1_method_57_code 13 = .ok (.getfield 19, 3) := by decide +kernel
theorem k_378 : Cond.code ⟨"PinchedBill$Reckoner", "<init>", "(LPinchedBill$House;)V"⟩ prog_6_method_1_code 2 none ∈ gd_tbl := gd_in 378 (by decide +kernel) (by decide +kernel)
theorem k_376 : Cond.methodLink "PinchedBill" 349 ⟨"PinchedBill$Reckoner", "<init>", "(LPinchedBill$House;)V"⟩ ∈ gd_tbl := gd_in 376 (by decide +kernel) (by decide +kernel)
theorem k_377 : Cond.instanceMethod ⟨"PinchedBill$Reckoner", "<init>", "(LPinchedBill$House;)V"⟩ ∈ gd_tbl := gd_in 377 (by decide +kernel) (by decide +kernel)
theorem kI_PinchedBill_349 : kI "PinchedBill" 349 ⟨"PinchedBill$Reckoner", "<init>", "(LPinchedBill$House;)V"⟩ prog_6_method_1_code 2 1 := ⟨k_376, k_377, k_136, k_378, rfl, by decide, by decide, by decide +kernel⟩
theorem d_X8_reckoned_16 : decode prog_1_method_57_code 16 = .ok (.invokespecial 349, 3) := by decide +kernel
theorem d_X8_reckoned_19 : decode prog_1_method_57_code 19 = .ok (.putfield 345, 3) := by decide +kernel
theorem d_X8_reckoned_22 : decode prog_1_method_57_code 22 = .ok (.aload_n 0, 1) := by decide +kernel
theorem d_X8_reckoned_23 : decode prog_1_method_57_code 23 = .ok (.getfield 345, 3) := by decide +kernel
theorem d_X8_reckoned_26 : decode prog_1_method_57_code 26 = .ok (.areturn, 1) := by decide +kernel
theorem d_X8_lawBook_0 : decode prog_1_method_58_code 0 = .ok (.aload_n 0, 1) := by decide +kernel
theorem k_373 : Cond.code ⟨"PinchedBill", "reckoned", "()LPinchedBill$Reckoner;"⟩ prog_1_method_57_code 1 (some (.object "PinchedBill$Reckoner")) ∈ gd_tbl := gd_in 373 (by decide +kernel) (by decide +kernel)
theorem k_370 : Cond.methodLink "PinchedBill" 184 ⟨"PinchedBill", "reckoned", "()LPinchedBill$Reckoner;"⟩ ∈ gd_tbl := gd_in 370 (by decide +kernel) (by decide +kernel)
theorem k_372 : Cond.instanceMethod ⟨"PinchedBill", "reckoned", "()LPinchedBill$Reckoner;"⟩ ∈ gd_tbl := gd_in 372 (by decide +kernel) (by decide +kernel)
theorem k_1 : Cond.selects "PinchedBill" ⟨"PinchedBill", "reckoned", "()LPinchedBill$Reckoner;"⟩ ⟨"PinchedBill", "reckoned", "()LPinchedBill$Reckoner;"⟩ ∈ gd_tbl := gd_in 1 (by decide +kernel) (by decide +kernel)
theorem kV_PinchedBill_184 : kV "PinchedBill" 184 ⟨"PinchedBill", "reckoned", "()LPinchedBill$Reckoner;"⟩ prog_1_method_57_code 1 (some (.object "PinchedBill$Reckoner")) 0 := ⟨k_370, k_372, k_1, k_117, k_373, by decide, by decide, by decide +kernel⟩
theorem d_X8_lawBook_1 : decode prog_1_method_58_code 1 = .ok (.invokevirtual 184, 3) := by decide +kernel
theorem k_405 : Cond.fieldLink "PinchedBill" 351 "PinchedBill$Reckoner" "laws" "LPinchedBill$Laws;" ∈ gd_tbl := gd_in 405 (by decide +kernel) (by decide +kernel)
theorem d_X8_lawBook_4 : decode prog_1_method_58_code 4 = .ok (.getfield 351, 3) := by decide +kernel
theorem d_X8_lawBook_7 : decode prog_1_method_58_code 7 = .ok (.areturn, 1) := by decide +kernel
theorem d_X8_traced_0 : decode prog_1_method_60_code 0 = .ok (.aload_n 0, 1) := by decide +kernel
theorem d_X8_traced_1 : decode prog_1_method_60_code 1 = .ok (.invokevirtual 184, 3) := by decide +kernel
theorem d_X8_traced_4 : decode prog_1_method_60_code 4 = .ok (.astore_n 2, 1) := by decide +kernel
theorem d_X8_traced_5 : decode prog_1_method_60_code 5 = .ok (.aload_n 2, 1) := by decide +kernel
theorem d_X8_traced_6 : decode prog_1_method_60_code 6 = .ok (.iload_n 1, 1) := by decide +kernel
theorem d_X8_traced_7 : decode prog_1_method_60_code 7 = .ok (.aload_n 0, 1) := by decide +kernel
theorem d_X8_traced_8 : decode prog_1_method_60_code 8 = .ok (.getfield 26, 3) := by decide +kernel
theorem k_297 : Cond.fieldLink "PinchedBill" 92 "PinchedBill$Standing" "sitting" "I" ∈ gd_tbl := gd_in 297 (by decide +kernel) (by decide +kernel)
theorem d_X8_traced_11 : decode prog_1_method_60_code 11 = .ok (.getfield 92, 3) := by decide +kernel
theorem k_1139 : Cond.methodLink "PinchedBill" 358 ⟨"PinchedBill$Reckoner", "trace", "(II)V"⟩ ∈ gd_tbl := gd_in 1139 (by decide +kernel) (by decide +kernel)
theorem kV_PinchedBill_358 : kV "PinchedBill" 358 ⟨"PinchedBill$Reckoner", "trace", "(II)V"⟩ prog_6_method_4_code 6 none 2 := ⟨k_1139, k_627, k_628, k_136, k_629, by decide, by decide, by decide +kernel⟩
theorem d_X8_traced_14 : decode prog_1_method_60_code 14 = .ok (.invokevirtual 358, 3) := by decide +kernel
theorem d_X8_traced_17 : decode prog_1_method_60_code 17 = .ok (.aload_n 2, 1) := by decide +kernel
theorem d_X8_traced_18 : decode prog_1_method_60_code 18 = .ok (.areturn, 1) := by decide +kernel
abbrev QN : QF := fun _ _ _ _ _ => False
theorem contx_N {p : Program} {l : Launch} {e : Env} {R : Room} {s : State} {m : MethodId} {args : Array Value} {below : List Frame} {meth : Method} {c : Code} {H : Heap} {locs : List Loc} {cells slots : Nat} {own nm : String} {cc : ByteArray} {ml : Nat} {ret0 : Option FieldType} {D : va_G} {ty : Nat → ClassId} {A : Nat → Prop} {pc : Nat} {ls : Array Slot} {rest st : List Value} {ws wc wr : va_W} {mc ms : Nat} {px : String → Prop} {isC isR : List Nat}
    {av : Array Value} {px2 : String → Prop} {Qf2 : QF} {mc2 ms2 : Nat} (C : Cx p s m args meth c own nm cc ml ret0 D ty A) (hnt : ∀ x ∈ c.exceptionTable.toList, False) (hP : va_P D vwCl ws H) (hD : va_D A ws) (hS : va_S A s.heap H locs) (ct : Cut ws wc wr isC isR) (hpx : ∀ E, px E → px2 E) (hc : cells + mc ≤ mc2) (hs : slots + ms ≤ ms2) (hr : vx_Run p l e R s m args below meth c H locs cells slots mc ms (F0 m pc ls st) rest (QN (va_A wc H.size) av) (XF px (va_A wc H.size)) (va_A wc H.size)) :
    W p l e R s m args below meth c H locs cells slots (vx_MQ below (Qf2 A) (XF px2 A) args s mc2 ms2 A) (F0 m pc ls st) := by
  intro T hT X
  rcases hr T hT X with ⟨v, st₀, t, T', L, h0, X', hL, e1, e2, hq, st⟩ | ⟨q, st₀, t, T', L, E, ce, h0, X', hL, e1, e2, ⟨u, hp, hb, hF⟩, hce, hcv, hcl, st⟩
  · exact hq.elim
  · obtain ⟨k1, k2, k3⟩ := vx_keep h0 e1 hS (fun q _ h => free_of9 C hD hS ct q h) (free_of9 C hD hS ct) hL hF
    obtain ⟨t2, a1, b1⟩ := thru (l := l) (e := e) (R := R) (below := below) (ls := ls) (rest := rest) (pc := pc) (Qf2 := Qf2) C hnt (hpx E hb) k3 (by rw [e1]; exact hce) hcv hcl hc hs T' rfl X'
    exact ⟨t2, st.trans a1, b1⟩
theorem zero_of {n : Int32} (h : ¬ n < 0 ∧ ¬ 0 < n) : n = 0 := by
  obtain ⟨a, ha, rfl⟩ := nI_of h.1
  have := un_nlt 0 a rfl rfl (by omega) ha h.2
  obtain rfl : a = 0 := by omega
  rfl
theorem idx_of {t M : Int32} {k : Nat} (hM : M = nI k) (hk : k < 2 ^ 31) (h : ¬ t < 0 ∧ t < M) : ∃ a : Nat, a < k ∧ t = nI a := by
  obtain ⟨a, ha, rfl⟩ := nI_of h.1
  exact ⟨a, un_lt a k rfl hM ha hk h.2, rfl⟩
theorem sw8 (w : Int32) : w = 0 ∨ w = 1 ∨ w = 2 ∨ w = 3 ∨ w = 4 ∨ w = 5 ∨ w = 6 ∨ w = 7 ∨ (w.toInt < 0 ∨ 7 < w.toInt) := by
  by_cases h : w.toInt < 0 ∨ 7 < w.toInt
  · simp [h]
  · have e : ∀ k : Int32, w.toInt = k.toInt → w = k := fun k h => Int32.toInt_inj.mp h
    have h0 : w.toInt = 0 ∨ w.toInt = 1 ∨ w.toInt = 2 ∨ w.toInt = 3 ∨ w.toInt = 4 ∨ w.toInt = 5 ∨ w.toInt = 6 ∨ w.toInt = 7 := by omega
    rcases h0 with h | h | h | h | h | h | h | h
    · exact Or.inl (e 0 h)
    · exact Or.inr (Or.inl (e 1 h))
    · exact Or.inr (Or.inr (Or.inl (e 2 h)))
    · exact Or.inr (Or.inr (Or.inr (Or.inl (e 3 h))))
    · exact Or.inr (Or.inr (Or.inr (Or.inr (Or.inl (e 4 h)))))
    · exact Or.inr (Or.inr (Or.inr (Or.inr (Or.inr (Or.inl (e 5 h))))))
    · exact Or.inr (Or.inr (Or.inr (Or.inr (Or.inr (Or.inr (Or.inl (e 6 h)))))))
    · exact Or.inr (Or.inr (Or.inr (Or.inr (Or.inr (Or.inr (Or.inr (Or.inl (e 7 h))))))))
/-- what count answers on a fresh object -/
def cN (w : Int32) : Int32 := if w = 1 then 1 else if w = 5 then 10 else if w.toInt < 0 ∨ 7 < w.toInt then -1 else 0
set_option maxHeartbeats 4000000 in
set_option maxRecDepth 100000 in
theorem x_within (l : Launch) (D : va_G) (ty : Nat → ClassId) (n : Int32) (lo : Int32) (hi : Int32) (hl9 : l.stackTraces = false) : CX l D ty ⟨"PinchedBill", "mustBeWithin", "(III)V"⟩ prog_1_method_49_code 3 none 6 82 1 6 [.int n, .int lo, .int hi] [] (QV D ty (fun (w : va_W) => (¬ n < lo ∧ ¬ hi < n) ∧ w = [])) (fun E => E = "java/lang/IllegalArgumentException" ∧ ¬ (¬ n < lo ∧ ¬ hi < n)) := by
  refine CX_of (by decide) ?_
  intro p e s m below meth c A C hnt hP hD hS
  obtain ⟨⟨hx, hb, hml, hown, hts⟩, hr, hlocks, hnm, hK, hE, hA, hZ⟩ := id C
  refine startW [.int n, .int lo, .int hi] 3 (nle rfl) (lv := [(0, .int n), (1, .int lo), (2, .int hi)]) rfl (fun ls hl => ?_)
  refine lv_iload_n hx hb d_X8_mustBeWithin_0 rfl (lv_at hl 0 rfl) ?_
  refine lv_iload_n hx hb d_X8_mustBeWithin_1 rfl (lv_at hl 1 rfl) ?_
  refine lv_icmp_lt (tgt := 10) hx hb d_X8_mustBeWithin_2 (by decide) (fun hc_1 => ?_) (fun hc_1 => ?_)
  · exact r_throw (text := "a number is out of its bounds") C hnt hl9 hS (by decide +kernel) (by decide +kernel) k_664 k_127 (by decide +kernel) (by decide +kernel) (all_in at_PinchedBill_322) (all_eq bd_PinchedBill_322) (List.all_eq_true.mp gt_PinchedBill_318_322) hl.1 d_X8_mustBeWithin_10 d_X8_mustBeWithin_13 d_X8_mustBeWithin_14 d_X8_mustBeWithin_17 d_X8_mustBeWithin_20 ⟨by decide, nle rfl, by decide, by decide⟩ ⟨rfl, fun h9 => h9.1 hc_1⟩ (by decide) (by decide)
  · refine lv_iload_n hx hb d_X8_mustBeWithin_5 rfl (lv_at hl 0 rfl) ?_
    refine lv_iload_n hx hb d_X8_mustBeWithin_6 rfl (lv_at hl 2 rfl) ?_
    refine lv_icmp_le (tgt := 21) hx hb d_X8_mustBeWithin_7 (by decide) (fun hc_2 => ?_) (fun hc_2 => ?_)
    · exact vx_ret (ret_V (w := []) C hP hD hS [] rfl rfl ⟨⟨hc_1, Int32.not_lt.mpr hc_2⟩, rfl⟩ (by decide) (by decide) d_X8_mustBeWithin_21)
    · exact r_throw (text := "a number is out of its bounds") C hnt hl9 hS (by decide +kernel) (by decide +kernel) k_664 k_127 (by decide +kernel) (by decide +kernel) (all_in at_PinchedBill_322) (all_eq bd_PinchedBill_322) (List.all_eq_true.mp gt_PinchedBill_318_322) hl.1 d_X8_mustBeWithin_10 d_X8_mustBeWithin_13 d_X8_mustBeWithin_14 d_X8_mustBeWithin_17 d_X8_mustBeWithin_20 ⟨by decide, nle rfl, by decide, by decide⟩ ⟨rfl, fun h9 => absurd hc_2 (fun h8 => h8 (Int32.not_lt.mp h9.2))⟩ (by decide) (by decide)
set_option maxHeartbeats 4000000 in
set_option maxRecDepth 100000 in
theorem x_notBelow (l : Launch) (D : va_G) (ty : Nat → ClassId) (n : Int32) (hl9 : l.stackTraces = false) : CX l D ty ⟨"PinchedBill", "mustNotBeBelow0", "(I)V"⟩ prog_1_method_50_code 1 none 6 82 1 6 [.int n] [] (QV D ty (fun (w : va_W) => (¬ n < 0) ∧ w = [])) (fun E => E = "java/lang/IllegalArgumentException" ∧ ¬ ¬ n < 0) := by
  refine CX_of (by decide) ?_
  intro p e s m below meth c A C hnt hP hD hS
  obtain ⟨⟨hx, hb, hml, hown, hts⟩, hr, hlocks, hnm, hK, hE, hA, hZ⟩ := id C
  refine startW [.int n] 1 (nle rfl) (lv := [(0, .int n)]) rfl (fun ls hl => ?_)
  refine lv_iload_n hx hb d_X8_mustNotBeBelow0_0 rfl (lv_at hl 0 rfl) ?_
  refine lv_if_ge (tgt := 15) hx hb d_X8_mustNotBeBelow0_1 (by decide) (fun hc_1 => ?_) (fun hc_1 => ?_)
  · exact vx_ret (ret_V (w := []) C hP hD hS [] rfl rfl ⟨(Int32.not_lt.mpr hc_1), rfl⟩ (by decide) (by decide) d_X8_mustNotBeBelow0_15)
  · exact r_throw (text := "below 0") C hnt hl9 hS (by decide +kernel) (by decide +kernel) k_664 k_127 (by decide +kernel) (by decide +kernel) (all_in at_PinchedBill_322) (all_eq bd_PinchedBill_322) (List.all_eq_true.mp gt_PinchedBill_318_322) hl.1 d_X8_mustNotBeBelow0_4 d_X8_mustNotBeBelow0_7 d_X8_mustNotBeBelow0_8 d_X8_mustNotBeBelow0_11 d_X8_mustNotBeBelow0_14 ⟨by decide, nle rfl, by decide, by decide⟩ ⟨rfl, fun h9 => hc_1 (Int32.not_lt.mp h9)⟩ (by decide) (by decide)
set_option maxHeartbeats 4000000 in
set_option maxRecDepth 100000 in
theorem x_bill (l : Launch) (D : va_G) (ty : Nat → ClassId) (h0 : Nat) (rd : Nat) (ho : Nat) (nw : Nat) (tr : Nat) (ts : Nat) (im : Nat) (g1 : Nat) (g2 : Nat) (g3 : Nat) (b : Int32) (hl9 : l.stackTraces = false) : CX l D ty ⟨"PinchedBill", "mustBeBill", "(I)V"⟩ prog_1_method_51_code 2 none 6 82 1 6 [.ref h0, .int b] [(h0, eO 8 [.ref rd, .ref ho, .ref nw, .ref tr, .ref ts, .ref im, .null]), (ho, eO 0 [.int 0, .int 1, .int 0, .int 0, .int 0, .int 0, .int 0, .int 0, .int 0, .int 0, .ref g1, .ref g2, .ref g3])] (QV D ty (fun (w : va_W) => (bB b = 1) ∧ w = [(h0, eO 8 [.ref rd, .ref ho, .ref nw, .ref tr, .ref ts, .ref im, .null]), (ho, eO 0 [.int 0, .int 1, .int 0, .int 0, .int 0, .int 0, .int 0, .int 0, .int 0, .int 0, .ref g1, .ref g2, .ref g3])])) (fun E => E = "java/lang/IllegalArgumentException" ∧ ¬ bB b = 1) := by
  refine CX_of (by decide) ?_
  intro p e s m below meth c A C hnt hP hD hS
  obtain ⟨⟨hx, hb, hml, hown, hts⟩, hr, hlocks, hnm, hK, hE, hA, hZ⟩ := id C
  refine startW [.ref h0, .int b] 2 (nle rfl) (lv := [(0, .ref h0), (1, .int b)]) rfl (fun ls hl => ?_)
  refine lv_aload_n hx hb d_X8_mustBeBill_0 rfl (lv_at hl 0 rfl) ?_
  refine r_get (v := .ref ho) C hP 0 rfl rfl lay_X8 1 (by decide) k_321 rfl d_X8_mustBeBill_1 ?_
  refine lv_iload_n hx hb d_X8_mustBeBill_4 rfl (lv_at hl 1 rfl) ?_
  have ct_1 : Cut [(h0, eO 8 [.ref rd, .ref ho, .ref nw, .ref tr, .ref ts, .ref im, .null]), (ho, eO 0 [.int 0, .int 1, .int 0, .int 0, .int 0, .int 0, .int 0, .int 0, .int 0, .int 0, .ref g1, .ref g2, .ref g3])] [(ho, eO 0 [.int 0, .int 1, .int 0, .int 0, .int 0, .int 0, .int 0, .int 0, .int 0, .int 0, .ref g1, .ref g2, .ref g3])] [(h0, eO 8 [.ref rd, .ref ho, .ref nw, .ref tr, .ref ts, .ref im, .null])] [1] [0] := ⟨rfl, rfl, rfl, rfl, by decide⟩
  refine cont_I C hP hD hS ct_1 (run_V (As := [.int b]) (rest := []) C hP hD hS ct_1 (c_isBill l D ty ho g1 g2 g3 b) kV_PinchedBill_325 1 rfl rfl rfl rfl hl.1 rfl (nle rfl) d_X8_mustBeBill_5 ⟨by decide, by decide, by decide, by decide⟩) (fun r_3 w_4 H locs hw_2 hP hD hS => ?_)
  obtain ⟨rfl, rfl⟩ := hw_2
  have hP : va_P D vwCl [(h0, eO 8 [.ref rd, .ref ho, .ref nw, .ref tr, .ref ts, .ref im, .null]), (ho, eO 0 [.int 0, .int 1, .int 0, .int 0, .int 0, .int 0, .int 0, .int 0, .int 0, .int 0, .ref g1, .ref g2, .ref g3])] H := hP
  have hD : va_D A [(h0, eO 8 [.ref rd, .ref ho, .ref nw, .ref tr, .ref ts, .ref im, .null]), (ho, eO 0 [.int 0, .int 1, .int 0, .int 0, .int 0, .int 0, .int 0, .int 0, .int 0, .int 0, .ref g1, .ref g2, .ref g3])] := hD
  refine lv_if_ne (tgt := 22) hx hb d_X8_mustBeBill_8 (by decide) (fun hc_5 => ?_) (fun hc_5 => ?_)
  · exact vx_ret (ret_V (w := [(h0, eO 8 [.ref rd, .ref ho, .ref nw, .ref tr, .ref ts, .ref im, .null]), (ho, eO 0 [.int 0, .int 1, .int 0, .int 0, .int 0, .int 0, .int 0, .int 0, .int 0, .int 0, .ref g1, .ref g2, .ref g3])]) C hP hD hS [0, 1] rfl rfl ⟨(Classical.byContradiction fun h9 => hc_5 (bB_0 h9)), rfl⟩ (by decide) (by decide) d_X8_mustBeBill_22)
  · exact r_throw (text := "no such bill") C hnt hl9 hS (by decide +kernel) (by decide +kernel) k_664 k_127 (by decide +kernel) (by decide +kernel) (all_in at_PinchedBill_322) (all_eq bd_PinchedBill_322) (List.all_eq_true.mp gt_PinchedBill_318_322) hl.1 d_X8_mustBeBill_11 d_X8_mustBeBill_14 d_X8_mustBeBill_15 d_X8_mustBeBill_18 d_X8_mustBeBill_21 ⟨by decide, nle rfl, by decide, by decide⟩ ⟨rfl, fun h9 => absurd h9 (by rw [hc_5]; decide)⟩ (by decide) (by decide)
set_option maxHeartbeats 4000000 in
set_option maxRecDepth 100000 in
theorem x_person (l : Launch) (D : va_G) (ty : Nat → ClassId) (h0 : Nat) (rd : Nat) (ho : Nat) (nw : Nat) (tr : Nat) (ts : Nat) (im : Nat) (g1 : Nat) (g2 : Nat) (g3 : Nat) (pn : Int32) (hl9 : l.stackTraces = false) : CX l D ty ⟨"PinchedBill", "mustBePerson", "(I)V"⟩ prog_1_method_52_code 2 none 6 82 1 6 [.ref h0, .int pn] [(h0, eO 8 [.ref rd, .ref ho, .ref nw, .ref tr, .ref ts, .ref im, .null]), (ho, eO 0 [.int 0, .int 1, .int 0, .int 0, .int 0, .int 0, .int 0, .int 0, .int 0, .int 0, .ref g1, .ref g2, .ref g3])] QN (fun E => E = "java/util/NoSuchElementException") := by
  refine CX_of (by decide) ?_
  intro p e s m below meth c A C hnt hP hD hS
  obtain ⟨⟨hx, hb, hml, hown, hts⟩, hr, hlocks, hnm, hK, hE, hA, hZ⟩ := id C
  refine startW [.ref h0, .int pn] 2 (nle rfl) (lv := [(0, .ref h0), (1, .int pn)]) rfl (fun ls hl => ?_)
  refine lv_iload_n hx hb d_X8_mustBePerson_0 rfl (lv_at hl 1 rfl) ?_
  refine lv_if_lt (tgt := 15) hx hb d_X8_mustBePerson_1 (by decide) (fun hc_1 => ?_) (fun hc_1 => ?_)
  · exact r_throwN (text := "no such person") C hnt hl9 hS nse_0 nse_1 nse_2 nse_5 (by decide +kernel) (by decide +kernel) k_999 k_135 (by decide +kernel) (by decide +kernel) (all_in at_PinchedBill_334) (all_eq bd_PinchedBill_334) (List.all_eq_true.mp gt_PinchedBill_330_334) hl.1 d_X8_mustBePerson_15 d_X8_mustBePerson_18 d_X8_mustBePerson_19 d_X8_mustBePerson_22 d_X8_mustBePerson_25 ⟨by decide, nle rfl, by decide, by decide⟩ rfl (by decide) (by decide)
  · refine lv_iload_n hx hb d_X8_mustBePerson_4 rfl (lv_at hl 1 rfl) ?_
    refine lv_aload_n hx hb d_X8_mustBePerson_5 rfl (lv_at hl 0 rfl) ?_
    refine r_get (v := .ref ho) C hP 0 rfl rfl lay_X8 1 (by decide) k_321 rfl d_X8_mustBePerson_6 ?_
    refine r_get (v := .int 0) C hP 1 rfl rfl lay_X0 2 (by decide) k_174 rfl d_X8_mustBePerson_9 ?_
    refine lv_icmp_lt (tgt := 26) hx hb d_X8_mustBePerson_12 (by decide) (fun hc_2 => ?_) (fun hc_2 => ?_)
    · exact absurd hc_2 (hc_1)
    · exact r_throwN (text := "no such person") C hnt hl9 hS nse_0 nse_1 nse_2 nse_5 (by decide +kernel) (by decide +kernel) k_999 k_135 (by decide +kernel) (by decide +kernel) (all_in at_PinchedBill_334) (all_eq bd_PinchedBill_334) (List.all_eq_true.mp gt_PinchedBill_330_334) hl.1 d_X8_mustBePerson_15 d_X8_mustBePerson_18 d_X8_mustBePerson_19 d_X8_mustBePerson_22 d_X8_mustBePerson_25 ⟨by decide, nle rfl, by decide, by decide⟩ rfl (by decide) (by decide)
set_option maxHeartbeats 4000000 in
set_option maxRecDepth 100000 in
theorem x_image (l : Launch) (D : va_G) (ty : Nat → ClassId) (t : Int32) (hl9 : l.stackTraces = false) : CX l D ty ⟨"PinchedBill", "mustBeImage", "(I)V"⟩ prog_1_method_53_code 1 none 6 82 1 6 [.int t] [] (QV D ty (fun (w : va_W) => (¬ t < 0 ∧ t < 3) ∧ w = [])) (fun E => E = "java/util/NoSuchElementException" ∧ ¬ (¬ t < 0 ∧ t < 3)) := by
  refine CX_of (by decide) ?_
  intro p e s m below meth c A C hnt hP hD hS
  obtain ⟨⟨hx, hb, hml, hown, hts⟩, hr, hlocks, hnm, hK, hE, hA, hZ⟩ := id C
  refine startW [.int t] 1 (nle rfl) (lv := [(0, .int t)]) rfl (fun ls hl => ?_)
  refine lv_iload_n hx hb d_X8_mustBeImage_0 rfl (lv_at hl 0 rfl) ?_
  refine lv_if_lt (tgt := 9) hx hb d_X8_mustBeImage_1 (by decide) (fun hc_1 => ?_) (fun hc_1 => ?_)
  · exact r_throwN (text := "no such image") C hnt hl9 hS nse_0 nse_1 nse_2 nse_5 (by decide +kernel) (by decide +kernel) k_999 k_135 (by decide +kernel) (by decide +kernel) (all_in at_PinchedBill_334) (all_eq bd_PinchedBill_334) (List.all_eq_true.mp gt_PinchedBill_330_334) hl.1 d_X8_mustBeImage_9 d_X8_mustBeImage_12 d_X8_mustBeImage_13 d_X8_mustBeImage_16 d_X8_mustBeImage_19 ⟨by decide, nle rfl, by decide, by decide⟩ ⟨rfl, fun h9 => h9.1 hc_1⟩ (by decide) (by decide)
  · refine lv_iload_n hx hb d_X8_mustBeImage_4 rfl (lv_at hl 0 rfl) ?_
    refine lv_iconst (v := 3) hx hb d_X8_mustBeImage_5 (by decide) ?_
    refine lv_icmp_lt (tgt := 20) hx hb d_X8_mustBeImage_6 (by decide) (fun hc_2 => ?_) (fun hc_2 => ?_)
    · exact vx_ret (ret_V (w := []) C hP hD hS [] rfl rfl ⟨⟨hc_1, hc_2⟩, rfl⟩ (by decide) (by decide) d_X8_mustBeImage_20)
    · exact r_throwN (text := "no such image") C hnt hl9 hS nse_0 nse_1 nse_2 nse_5 (by decide +kernel) (by decide +kernel) k_999 k_135 (by decide +kernel) (by decide +kernel) (all_in at_PinchedBill_334) (all_eq bd_PinchedBill_334) (List.all_eq_true.mp gt_PinchedBill_330_334) hl.1 d_X8_mustBeImage_9 d_X8_mustBeImage_12 d_X8_mustBeImage_13 d_X8_mustBeImage_16 d_X8_mustBeImage_19 ⟨by decide, nle rfl, by decide, by decide⟩ ⟨rfl, fun h9 => hc_2 h9.2⟩ (by decide) (by decide)
set_option maxHeartbeats 4000000 in
set_option maxRecDepth 100000 in
theorem x_tray (l : Launch) (D : va_G) (ty : Nat → ClassId) (t : Int32) (hl9 : l.stackTraces = false) : CX l D ty ⟨"PinchedBill", "mustBeTray", "(I)V"⟩ prog_1_method_54_code 1 none 6 82 1 6 [.int t] [] (QV D ty (fun (w : va_W) => (¬ t < 0 ∧ t < 4) ∧ w = [])) (fun E => E = "java/util/NoSuchElementException" ∧ ¬ (¬ t < 0 ∧ t < 4)) := by
  refine CX_of (by decide) ?_
  intro p e s m below meth c A C hnt hP hD hS
  obtain ⟨⟨hx, hb, hml, hown, hts⟩, hr, hlocks, hnm, hK, hE, hA, hZ⟩ := id C
  refine startW [.int t] 1 (nle rfl) (lv := [(0, .int t)]) rfl (fun ls hl => ?_)
  refine lv_iload_n hx hb d_X8_mustBeTray_0 rfl (lv_at hl 0 rfl) ?_
  refine lv_if_lt (tgt := 9) hx hb d_X8_mustBeTray_1 (by decide) (fun hc_1 => ?_) (fun hc_1 => ?_)
  · exact r_throwN (text := "no such tray") C hnt hl9 hS nse_0 nse_1 nse_2 nse_5 (by decide +kernel) (by decide +kernel) k_999 k_135 (by decide +kernel) (by decide +kernel) (all_in at_PinchedBill_334) (all_eq bd_PinchedBill_334) (List.all_eq_true.mp gt_PinchedBill_330_334) hl.1 d_X8_mustBeTray_9 d_X8_mustBeTray_12 d_X8_mustBeTray_13 d_X8_mustBeTray_16 d_X8_mustBeTray_19 ⟨by decide, nle rfl, by decide, by decide⟩ ⟨rfl, fun h9 => h9.1 hc_1⟩ (by decide) (by decide)
  · refine lv_iload_n hx hb d_X8_mustBeTray_4 rfl (lv_at hl 0 rfl) ?_
    refine lv_iconst (v := 4) hx hb d_X8_mustBeTray_5 (by decide) ?_
    refine lv_icmp_lt (tgt := 20) hx hb d_X8_mustBeTray_6 (by decide) (fun hc_2 => ?_) (fun hc_2 => ?_)
    · exact vx_ret (ret_V (w := []) C hP hD hS [] rfl rfl ⟨⟨hc_1, hc_2⟩, rfl⟩ (by decide) (by decide) d_X8_mustBeTray_20)
    · exact r_throwN (text := "no such tray") C hnt hl9 hS nse_0 nse_1 nse_2 nse_5 (by decide +kernel) (by decide +kernel) k_999 k_135 (by decide +kernel) (by decide +kernel) (all_in at_PinchedBill_334) (all_eq bd_PinchedBill_334) (List.all_eq_true.mp gt_PinchedBill_330_334) hl.1 d_X8_mustBeTray_9 d_X8_mustBeTray_12 d_X8_mustBeTray_13 d_X8_mustBeTray_16 d_X8_mustBeTray_19 ⟨by decide, nle rfl, by decide, by decide⟩ ⟨rfl, fun h9 => hc_2 h9.2⟩ (by decide) (by decide)
set_option maxHeartbeats 4000000 in
set_option maxRecDepth 100000 in
theorem x_trayThere (l : Launch) (D : va_G) (ty : Nat → ClassId) (h0 : Nat) (rd : Nat) (ho : Nat) (nw : Nat) (tr : Nat) (ts : Nat) (im : Nat) (t : Int32) (rv : Value) (hl9 : l.stackTraces = false) : CX l D ty ⟨"PinchedBill", "trayThere", "(I)LPinchedBill$Tray;"⟩ prog_1_method_55_code 3 (some (.object "PinchedBill$Tray")) 7 102 2 12 [.ref h0, .int t] [(h0, eO 8 [.ref rd, .ref ho, .ref nw, .ref tr, .ref ts, .ref im, rv]), (ts, eQ (ty 4) 4 (fun _ => none))] QN (fun E => (E = "java/util/NoSuchElementException" ∧ ¬ (¬ t < 0 ∧ t < 4)) ∨ (E = "java/lang/IllegalStateException" ∧ (¬ t < 0 ∧ t < 4))) := by
  refine CX_of (by decide) ?_
  intro p e s m below meth c A C hnt hP hD hS
  obtain ⟨⟨hx, hb, hml, hown, hts⟩, hr, hlocks, hnm, hK, hE, hA, hZ⟩ := id C
  refine startW [.ref h0, .int t] 3 (nle rfl) (lv := [(0, .ref h0), (1, .int t)]) rfl (fun ls hl => ?_)
  refine lv_iload_n hx hb d_X8_trayThere_0 rfl (lv_at hl 1 rfl) ?_
  have ct_1 : Cut [(h0, eO 8 [.ref rd, .ref ho, .ref nw, .ref tr, .ref ts, .ref im, rv]), (ts, eQ (ty 4) 4 (fun _ => none))] [] [(h0, eO 8 [.ref rd, .ref ho, .ref nw, .ref tr, .ref ts, .ref im, rv]), (ts, eQ (ty 4) 4 (fun _ => none))] [] [0, 1] := ⟨rfl, rfl, rfl, rfl, by decide⟩
  refine contx_V C hnt hP hD hS ct_1 (fun E h => Or.inl h) (by decide) (by decide) (runx_S (As := [.int t]) (rest := []) C hP hD hS ct_1 (x_tray l D ty t hl9) kS_PinchedBill_276 rfl hl.1 rfl (nle rfl) d_X8_trayThere_1 ⟨by decide, by decide, by decide, by decide⟩) (fun w_4 H locs hw_2 hP hD hS => ?_)
  obtain ⟨ht_5, rfl⟩ := hw_2
  have hP : va_P D vwCl [(h0, eO 8 [.ref rd, .ref ho, .ref nw, .ref tr, .ref ts, .ref im, rv]), (ts, eQ (ty 4) 4 (fun _ => none))] H := hP
  have hD : va_D A [(h0, eO 8 [.ref rd, .ref ho, .ref nw, .ref tr, .ref ts, .ref im, rv]), (ts, eQ (ty 4) 4 (fun _ => none))] := hD
  have hid := ht_5
  obtain ⟨ta, ha_6, rfl⟩ := idx_of (M := 4) (k := 4) rfl (by omega) hid
  refine lv_aload_n hx hb d_X8_trayThere_4 rfl (lv_at hl 0 rfl) ?_
  refine r_get (v := .ref ts) C hP 0 rfl rfl lay_X8 4 (by decide) k_324 rfl d_X8_trayThere_5 ?_
  refine lv_iload_n hx hb d_X8_trayThere_8 rfl (lv_at hl 1 rfl) ?_
  refine r_aald (v := .null) C hP 1 4 rfl rfl ta rfl (by omega) (by decide) rfl d_X8_trayThere_9 ?_
  refine lv_astore_nN (lv' := [(2, .null), (0, .ref h0), (1, .int (nI ta))]) hx hb d_X8_trayThere_10 rfl hl (by decide) rfl (fun ls hl => ?_)
  refine lv_aload_nN hx hb d_X8_trayThere_11 rfl (lv_at hl 0 rfl) ?_
  refine lv_ifnonnullN hx hb d_X8_trayThere_12 ?_
  exact r_throw (text := "the tray is missing") C hnt hl9 hS (by decide +kernel) (by decide +kernel) k_1079 k_139 (by decide +kernel) (by decide +kernel) (all_in at_PinchedBill_310) (all_eq bd_PinchedBill_310) (List.all_eq_true.mp gt_PinchedBill_306_310) hl.1 d_X8_trayThere_15 d_X8_trayThere_18 d_X8_trayThere_19 d_X8_trayThere_22 d_X8_trayThere_25 ⟨by decide, nle rfl, by decide, by decide⟩ (Or.inr ⟨rfl, hid⟩) (by decide) (by decide)
set_option maxHeartbeats 4000000 in
set_option maxRecDepth 100000 in
theorem x_traySeen (l : Launch) (D : va_G) (ty : Nat → ClassId) (h0 : Nat) (rd : Nat) (ho : Nat) (nw : Nat) (tr : Nat) (ts : Nat) (im : Nat) (t : Int32) (rv : Value) (hl9 : l.stackTraces = false) : CX l D ty ⟨"PinchedBill", "traySeen", "(I)LPinchedBill$Tray;"⟩ prog_1_method_56_code 6 (some (.object "PinchedBill$Tray")) 8 124 2 12 [.ref h0, .int t] [(h0, eO 8 [.ref rd, .ref ho, .ref nw, .ref tr, .ref ts, .ref im, rv]), (ts, eQ (ty 4) 4 (fun _ => none))] QN (fun E => (E = "java/util/NoSuchElementException" ∧ ¬ (¬ t < 0 ∧ t < 4)) ∨ (E = "java/lang/IllegalStateException" ∧ (¬ t < 0 ∧ t < 4))) := by
  refine CX_of (by decide) ?_
  intro p e s m below meth c A C hnt hP hD hS
  obtain ⟨⟨hx, hb, hml, hown, hts⟩, hr, hlocks, hnm, hK, hE, hA, hZ⟩ := id C
  refine startW [.ref h0, .int t] 6 (nle rfl) (lv := [(0, .ref h0), (1, .int t)]) rfl (fun ls hl => ?_)
  refine lv_aload_n hx hb d_X8_traySeen_0 rfl (lv_at hl 0 rfl) ?_
  refine lv_iload_n hx hb d_X8_traySeen_1 rfl (lv_at hl 1 rfl) ?_
  have ct_1 : Cut [(h0, eO 8 [.ref rd, .ref ho, .ref nw, .ref tr, .ref ts, .ref im, rv]), (ts, eQ (ty 4) 4 (fun _ => none))] [(h0, eO 8 [.ref rd, .ref ho, .ref nw, .ref tr, .ref ts, .ref im, rv]), (ts, eQ (ty 4) 4 (fun _ => none))] [] [0, 1] [] := ⟨rfl, rfl, rfl, rfl, by decide⟩
  exact contx_N C hnt hP hD hS ct_1 (fun _ h => h) (by decide) (by decide) (runx_V (As := [.int t]) (rest := []) C hP hD hS ct_1 (x_trayThere l D ty h0 rd ho nw tr ts im t rv hl9) kV_PinchedBill_145 0 rfl rfl rfl rfl hl.1 rfl (nle rfl) d_X8_traySeen_2 ⟨by decide, by decide, by decide, by decide⟩)
set_option maxHeartbeats 4000000 in
set_option maxRecDepth 100000 in
theorem c_reckoned (l : Launch) (D : va_G) (ty : Nat → ClassId) (h0 : Nat) (rd : Nat) (ho : Nat) (nw : Nat) (tr : Nat) (ts : Nat) (im : Nat) (g1 : Nat) (g2 : Nat) (g3 : Nat) : CC l D ty ⟨"PinchedBill", "reckoned", "()LPinchedBill$Reckoner;"⟩ prog_1_method_57_code 1 (some (.object "PinchedBill$Reckoner")) 3 54 15 22363 [.ref h0] [(h0, eO 8 [.ref rd, .ref ho, .ref nw, .ref tr, .ref ts, .ref im, .null]), (ho, eO 0 [.int 0, .int 1, .int 0, .int 0, .int 0, .int 0, .int 0, .int 0, .int 0, .int 0, .ref g1, .ref g2, .ref g3])] (QR D ty (fun (r : Nat) (w : va_W) => ∃ (rk : Nat) (lw : Nat) (l1 : Nat) (l2 : Nat) (l3 : Nat) (l4 : Nat) (w1 : Nat) (w2 : Nat) (m1 : Nat) (m2 : Nat) (m3 : Nat) (m4 : Nat) (m5 : Nat) (m6 : Nat) (m7 : Nat), rk = r ∧ w = [(h0, eO 8 [.ref rd, .ref ho, .ref nw, .ref tr, .ref ts, .ref im, .ref rk]), (ho, eO 0 [.int 0, .int 1, .int 0, .int 0, .int 0, .int 0, .int 0, .int 0, .int 0, .int 0, .ref g1, .ref g2, .ref g3]), (rk, eO 4 [.ref lw, .ref w1, .ref w2, .int 0, .int 0, .int 0, .ref ho, .ref m1, .int 1, .ref m2, .ref m3, .int (-1), .ref m4, .int (-1), .ref m5, .ref m6, .ref m7, .int 0]), (lw, eO 2 [.ref ho, .ref l1, .ref l2, .ref l3, .ref l4]), (l1, eI (ty 0) 1000 (fun _ => 0)), (l2, eI (ty 0) 8000 (fun _ => 0)), (l3, eI (ty 0) 8 (fun _ => 0)), (l4, eI (ty 0) 64 (fun _ => 0)), (w1, eO 7 [.int 0, .int (-1)]), (w2, eO 7 [.int 0, .int (-1)]), (m1, eI (ty 0) 9000 (fun _ => 0)), (m2, eI (ty 0) 1000 (fun _ => 0)), (m3, eI (ty 0) 1000 (fun _ => 0)), (m4, eI (ty 0) 256 (fun _ => 0)), (m5, eI (ty 0) 8 (fun _ => 0)), (m6, eI (ty 0) 1000 (fun _ => 0)), (m7, eI (ty 0) 1000 (fun _ => 0))])) := by
  refine CC_of (by decide) ?_
  intro p e s m below meth c A C hP hD hS
  obtain ⟨⟨hx, hb, hml, hown, hts⟩, hr, hlocks, hnm, hK, hE, hA, hZ⟩ := id C
  refine startW [.ref h0] 1 (nle rfl) (lv := [(0, .ref h0)]) rfl (fun ls hl => ?_)
  refine lv_aload_n hx hb d_X8_reckoned_0 rfl (lv_at hl 0 rfl) ?_
  refine r_get (v := .null) C hP 0 rfl rfl lay_X8 6 (by decide) k_326 rfl d_X8_reckoned_1 ?_
  refine lv_ifnonnullN hx hb d_X8_reckoned_4 ?_
  refine lv_aload_n hx hb d_X8_reckoned_7 rfl (lv_at hl 0 rfl) ?_
  refine r_new (ci := 4) C hP hD hS rfl lay_X4 tok_X4 nw_X4 k_374 k_375 k_136 (by decide) (by decide) d_X8_reckoned_8 (fun q_1 H hP hD hS => ?_)
  have hP : va_P D vwCl [(h0, eO 8 [.ref rd, .ref ho, .ref nw, .ref tr, .ref ts, .ref im, .null]), (ho, eO 0 [.int 0, .int 1, .int 0, .int 0, .int 0, .int 0, .int 0, .int 0, .int 0, .int 0, .ref g1, .ref g2, .ref g3]), (q_1, eO 4 [.null, .null, .null, .int 0, .int 0, .int 0, .null, .null, .int 0, .null, .null, .int 0, .null, .int 0, .null, .null, .null, .int 0])] H := hP
  have hD : va_D A [(h0, eO 8 [.ref rd, .ref ho, .ref nw, .ref tr, .ref ts, .ref im, .null]), (ho, eO 0 [.int 0, .int 1, .int 0, .int 0, .int 0, .int 0, .int 0, .int 0, .int 0, .int 0, .ref g1, .ref g2, .ref g3]), (q_1, eO 4 [.null, .null, .null, .int 0, .int 0, .int 0, .null, .null, .int 0, .null, .null, .int 0, .null, .int 0, .null, .null, .null, .int 0])] := hD
  refine lv_dup hx hb d_X8_reckoned_11 rfl ?_
  refine lv_aload_n hx hb d_X8_reckoned_12 rfl (lv_at hl 0 rfl) ?_
  refine r_get (v := .ref ho) C hP 0 rfl rfl lay_X8 1 (by decide) k_321 rfl d_X8_reckoned_13 ?_
  have ct_2 : Cut [(h0, eO 8 [.ref rd, .ref ho, .ref nw, .ref tr, .ref ts, .ref im, .null]), (ho, eO 0 [.int 0, .int 1, .int 0, .int 0, .int 0, .int 0, .int 0, .int 0, .int 0, .int 0, .ref g1, .ref g2, .ref g3]), (q_1, eO 4 [.null, .null, .null, .int 0, .int 0, .int 0, .null, .null, .int 0, .null, .null, .int 0, .null, .int 0, .null, .null, .null, .int 0])] [(q_1, eO 4 [.null, .null, .null, .int 0, .int 0, .int 0, .null, .null, .int 0, .null, .null, .int 0, .null, .int 0, .null, .null, .null, .int 0])] [(h0, eO 8 [.ref rd, .ref ho, .ref nw, .ref tr, .ref ts, .ref im, .null]), (ho, eO 0 [.int 0, .int 1, .int 0, .int 0, .int 0, .int 0, .int 0, .int 0, .int 0, .int 0, .ref g1, .ref g2, .ref g3])] [2] [0, 1] := ⟨rfl, rfl, rfl, rfl, by decide⟩
  refine cont_V C hP hD hS ct_2 (run_I (As := [.ref ho]) (rest := [.ref q_1, .ref h0]) C hP hD hS ct_2 (c_Reck l D ty q_1 ho) kI_PinchedBill_349 rfl hl.1 rfl (nle rfl) d_X8_reckoned_16 ⟨by decide, by decide, by decide, by decide⟩) (fun w_19 H locs hw_17 hP hD hS => ?_)
  obtain ⟨lw_3, l1_4, l2_5, l3_6, l4_7, w1_8, w2_9, m1_10, m2_11, m3_12, m4_13, m5_14, m6_15, m7_16, rfl⟩ := hw_17
  have hP : va_P D vwCl [(h0, eO 8 [.ref rd, .ref ho, .ref nw, .ref tr, .ref ts, .ref im, .null]), (ho, eO 0 [.int 0, .int 1, .int 0, .int 0, .int 0, .int 0, .int 0, .int 0, .int 0, .int 0, .ref g1, .ref g2, .ref g3]), (q_1, eO 4 [.ref lw_3, .ref w1_8, .ref w2_9, .int 0, .int 0, .int 0, .ref ho, .ref m1_10, .int 1, .ref m2_11, .ref m3_12, .int (-1), .ref m4_13, .int (-1), .ref m5_14, .ref m6_15, .ref m7_16, .int 0]), (lw_3, eO 2 [.ref ho, .ref l1_4, .ref l2_5, .ref l3_6, .ref l4_7]), (l1_4, eI (ty 0) 1000 (fun _ => 0)), (l2_5, eI (ty 0) 8000 (fun _ => 0)), (l3_6, eI (ty 0) 8 (fun _ => 0)), (l4_7, eI (ty 0) 64 (fun _ => 0)), (w1_8, eO 7 [.int 0, .int (-1)]), (w2_9, eO 7 [.int 0, .int (-1)]), (m1_10, eI (ty 0) 9000 (fun _ => 0)), (m2_11, eI (ty 0) 1000 (fun _ => 0)), (m3_12, eI (ty 0) 1000 (fun _ => 0)), (m4_13, eI (ty 0) 256 (fun _ => 0)), (m5_14, eI (ty 0) 8 (fun _ => 0)), (m6_15, eI (ty 0) 1000 (fun _ => 0)), (m7_16, eI (ty 0) 1000 (fun _ => 0))] H := hP
  have hD : va_D A [(h0, eO 8 [.ref rd, .ref ho, .ref nw, .ref tr, .ref ts, .ref im, .null]), (ho, eO 0 [.int 0, .int 1, .int 0, .int 0, .int 0, .int 0, .int 0, .int 0, .int 0, .int 0, .ref g1, .ref g2, .ref g3]), (q_1, eO 4 [.ref lw_3, .ref w1_8, .ref w2_9, .int 0, .int 0, .int 0, .ref ho, .ref m1_10, .int 1, .ref m2_11, .ref m3_12, .int (-1), .ref m4_13, .int (-1), .ref m5_14, .ref m6_15, .ref m7_16, .int 0]), (lw_3, eO 2 [.ref ho, .ref l1_4, .ref l2_5, .ref l3_6, .ref l4_7]), (l1_4, eI (ty 0) 1000 (fun _ => 0)), (l2_5, eI (ty 0) 8000 (fun _ => 0)), (l3_6, eI (ty 0) 8 (fun _ => 0)), (l4_7, eI (ty 0) 64 (fun _ => 0)), (w1_8, eO 7 [.int 0, .int (-1)]), (w2_9, eO 7 [.int 0, .int (-1)]), (m1_10, eI (ty 0) 9000 (fun _ => 0)), (m2_11, eI (ty 0) 1000 (fun _ => 0)), (m3_12, eI (ty 0) 1000 (fun _ => 0)), (m4_13, eI (ty 0) 256 (fun _ => 0)), (m5_14, eI (ty 0) 8 (fun _ => 0)), (m6_15, eI (ty 0) 1000 (fun _ => 0)), (m7_16, eI (ty 0) 1000 (fun _ => 0))] := hD
  refine r_put (w := [(h0, eO 8 [.ref rd, .ref ho, .ref nw, .ref tr, .ref ts, .ref im, .ref q_1]), (ho, eO 0 [.int 0, .int 1, .int 0, .int 0, .int 0, .int 0, .int 0, .int 0, .int 0, .int 0, .ref g1, .ref g2, .ref g3]), (q_1, eO 4 [.ref lw_3, .ref w1_8, .ref w2_9, .int 0, .int 0, .int 0, .ref ho, .ref m1_10, .int 1, .ref m2_11, .ref m3_12, .int (-1), .ref m4_13, .int (-1), .ref m5_14, .ref m6_15, .ref m7_16, .int 0]), (lw_3, eO 2 [.ref ho, .ref l1_4, .ref l2_5, .ref l3_6, .ref l4_7]), (l1_4, eI (ty 0) 1000 (fun _ => 0)), (l2_5, eI (ty 0) 8000 (fun _ => 0)), (l3_6, eI (ty 0) 8 (fun _ => 0)), (l4_7, eI (ty 0) 64 (fun _ => 0)), (w1_8, eO 7 [.int 0, .int (-1)]), (w2_9, eO 7 [.int 0, .int (-1)]), (m1_10, eI (ty 0) 9000 (fun _ => 0)), (m2_11, eI (ty 0) 1000 (fun _ => 0)), (m3_12, eI (ty 0) 1000 (fun _ => 0)), (m4_13, eI (ty 0) 256 (fun _ => 0)), (m5_14, eI (ty 0) 8 (fun _ => 0)), (m6_15, eI (ty 0) 1000 (fun _ => 0)), (m7_16, eI (ty 0) 1000 (fun _ => 0))]) C hP hD hS 0 rfl rfl lay_X8 tok_X8 nmo_X8 6 (by decide) k_326 rfl rfl rfl (nle rfl) rfl d_X8_reckoned_19 (fun H locs hP hD hS => ?_)
  refine lv_aload_n hx hb d_X8_reckoned_22 rfl (lv_at hl 0 rfl) ?_
  refine r_get (v := .ref q_1) C hP 0 rfl rfl lay_X8 6 (by decide) k_326 rfl d_X8_reckoned_23 ?_
  exact ret_R (w := [(h0, eO 8 [.ref rd, .ref ho, .ref nw, .ref tr, .ref ts, .ref im, .ref q_1]), (ho, eO 0 [.int 0, .int 1, .int 0, .int 0, .int 0, .int 0, .int 0, .int 0, .int 0, .int 0, .ref g1, .ref g2, .ref g3]), (q_1, eO 4 [.ref lw_3, .ref w1_8, .ref w2_9, .int 0, .int 0, .int 0, .ref ho, .ref m1_10, .int 1, .ref m2_11, .ref m3_12, .int (-1), .ref m4_13, .int (-1), .ref m5_14, .ref m6_15, .ref m7_16, .int 0]), (lw_3, eO 2 [.ref ho, .ref l1_4, .ref l2_5, .ref l3_6, .ref l4_7]), (l1_4, eI (ty 0) 1000 (fun _ => 0)), (l2_5, eI (ty 0) 8000 (fun _ => 0)), (l3_6, eI (ty 0) 8 (fun _ => 0)), (l4_7, eI (ty 0) 64 (fun _ => 0)), (w1_8, eO 7 [.int 0, .int (-1)]), (w2_9, eO 7 [.int 0, .int (-1)]), (m1_10, eI (ty 0) 9000 (fun _ => 0)), (m2_11, eI (ty 0) 1000 (fun _ => 0)), (m3_12, eI (ty 0) 1000 (fun _ => 0)), (m4_13, eI (ty 0) 256 (fun _ => 0)), (m5_14, eI (ty 0) 8 (fun _ => 0)), (m6_15, eI (ty 0) 1000 (fun _ => 0)), (m7_16, eI (ty 0) 1000 (fun _ => 0))]) C hP hD hS [0, 1, 2, 3, 4, 5, 6, 7, 8, 9, 10, 11, 12, 13, 14, 15, 16] rfl rfl ⟨q_1, lw_3, l1_4, l2_5, l3_6, l4_7, w1_8, w2_9, m1_10, m2_11, m3_12, m4_13, m5_14, m6_15, m7_16, rfl, rfl⟩ (by decide) (by decide) d_X8_reckoned_26
set_option maxHeartbeats 4000000 in
set_option maxRecDepth 100000 in
theorem c_lawBook (l : Launch) (D : va_G) (ty : Nat → ClassId) (h0 : Nat) (rd : Nat) (ho : Nat) (nw : Nat) (tr : Nat) (ts : Nat) (im : Nat) (g1 : Nat) (g2 : Nat) (g3 : Nat) : CC l D ty ⟨"PinchedBill", "lawBook", "()LPinchedBill$Laws;"⟩ prog_1_method_58_code 1 (some (.object "PinchedBill$Laws")) 4 74 15 22363 [.ref h0] [(h0, eO 8 [.ref rd, .ref ho, .ref nw, .ref tr, .ref ts, .ref im, .null]), (ho, eO 0 [.int 0, .int 1, .int 0, .int 0, .int 0, .int 0, .int 0, .int 0, .int 0, .int 0, .ref g1, .ref g2, .ref g3])] (QR D ty (fun (r : Nat) (w : va_W) => ∃ (rk : Nat) (lw : Nat) (l1 : Nat) (l2 : Nat) (l3 : Nat) (l4 : Nat) (w1 : Nat) (w2 : Nat) (m1 : Nat) (m2 : Nat) (m3 : Nat) (m4 : Nat) (m5 : Nat) (m6 : Nat) (m7 : Nat), lw = r ∧ w = [(h0, eO 8 [.ref rd, .ref ho, .ref nw, .ref tr, .ref ts, .ref im, .ref rk]), (ho, eO 0 [.int 0, .int 1, .int 0, .int 0, .int 0, .int 0, .int 0, .int 0, .int 0, .int 0, .ref g1, .ref g2, .ref g3]), (rk, eO 4 [.ref lw, .ref w1, .ref w2, .int 0, .int 0, .int 0, .ref ho, .ref m1, .int 1, .ref m2, .ref m3, .int (-1), .ref m4, .int (-1), .ref m5, .ref m6, .ref m7, .int 0]), (lw, eO 2 [.ref ho, .ref l1, .ref l2, .ref l3, .ref l4]), (l1, eI (ty 0) 1000 (fun _ => 0)), (l2, eI (ty 0) 8000 (fun _ => 0)), (l3, eI (ty 0) 8 (fun _ => 0)), (l4, eI (ty 0) 64 (fun _ => 0)), (w1, eO 7 [.int 0, .int (-1)]), (w2, eO 7 [.int 0, .int (-1)]), (m1, eI (ty 0) 9000 (fun _ => 0)), (m2, eI (ty 0) 1000 (fun _ => 0)), (m3, eI (ty 0) 1000 (fun _ => 0)), (m4, eI (ty 0) 256 (fun _ => 0)), (m5, eI (ty 0) 8 (fun _ => 0)), (m6, eI (ty 0) 1000 (fun _ => 0)), (m7, eI (ty 0) 1000 (fun _ => 0))])) := by
  refine CC_of (by decide) ?_
  intro p e s m below meth c A C hP hD hS
  obtain ⟨⟨hx, hb, hml, hown, hts⟩, hr, hlocks, hnm, hK, hE, hA, hZ⟩ := id C
  refine startW [.ref h0] 1 (nle rfl) (lv := [(0, .ref h0)]) rfl (fun ls hl => ?_)
  refine lv_aload_n hx hb d_X8_lawBook_0 rfl (lv_at hl 0 rfl) ?_
  have ct_1 : Cut [(h0, eO 8 [.ref rd, .ref ho, .ref nw, .ref tr, .ref ts, .ref im, .null]), (ho, eO 0 [.int 0, .int 1, .int 0, .int 0, .int 0, .int 0, .int 0, .int 0, .int 0, .int 0, .ref g1, .ref g2, .ref g3])] [(h0, eO 8 [.ref rd, .ref ho, .ref nw, .ref tr, .ref ts, .ref im, .null]), (ho, eO 0 [.int 0, .int 1, .int 0, .int 0, .int 0, .int 0, .int 0, .int 0, .int 0, .int 0, .ref g1, .ref g2, .ref g3])] [] [0, 1] [] := ⟨rfl, rfl, rfl, rfl, by decide⟩
  refine cont_R C hP hD hS ct_1 (run_V (As := []) (rest := []) C hP hD hS ct_1 (c_reckoned l D ty h0 rd ho nw tr ts im g1 g2 g3) kV_PinchedBill_184 0 rfl rfl rfl rfl hl.1 rfl (nle rfl) d_X8_lawBook_1 ⟨by decide, by decide, by decide, by decide⟩) (fun r_18 w_19 H locs hw_17 hP hD hS => ?_)
  obtain ⟨rk_2, lw_3, l1_4, l2_5, l3_6, l4_7, w1_8, w2_9, m1_10, m2_11, m3_12, m4_13, m5_14, m6_15, m7_16, rfl, rfl⟩ := hw_17
  have hP : va_P D vwCl [(h0, eO 8 [.ref rd, .ref ho, .ref nw, .ref tr, .ref ts, .ref im, .ref rk_2]), (ho, eO 0 [.int 0, .int 1, .int 0, .int 0, .int 0, .int 0, .int 0, .int 0, .int 0, .int 0, .ref g1, .ref g2, .ref g3]), (rk_2, eO 4 [.ref lw_3, .ref w1_8, .ref w2_9, .int 0, .int 0, .int 0, .ref ho, .ref m1_10, .int 1, .ref m2_11, .ref m3_12, .int (-1), .ref m4_13, .int (-1), .ref m5_14, .ref m6_15, .ref m7_16, .int 0]), (lw_3, eO 2 [.ref ho, .ref l1_4, .ref l2_5, .ref l3_6, .ref l4_7]), (l1_4, eI (ty 0) 1000 (fun _ => 0)), (l2_5, eI (ty 0) 8000 (fun _ => 0)), (l3_6, eI (ty 0) 8 (fun _ => 0)), (l4_7, eI (ty 0) 64 (fun _ => 0)), (w1_8, eO 7 [.int 0, .int (-1)]), (w2_9, eO 7 [.int 0, .int (-1)]), (m1_10, eI (ty 0) 9000 (fun _ => 0)), (m2_11, eI (ty 0) 1000 (fun _ => 0)), (m3_12, eI (ty 0) 1000 (fun _ => 0)), (m4_13, eI (ty 0) 256 (fun _ => 0)), (m5_14, eI (ty 0) 8 (fun _ => 0)), (m6_15, eI (ty 0) 1000 (fun _ => 0)), (m7_16, eI (ty 0) 1000 (fun _ => 0))] H := hP
  have hD : va_D A [(h0, eO 8 [.ref rd, .ref ho, .ref nw, .ref tr, .ref ts, .ref im, .ref rk_2]), (ho, eO 0 [.int 0, .int 1, .int 0, .int 0, .int 0, .int 0, .int 0, .int 0, .int 0, .int 0, .ref g1, .ref g2, .ref g3]), (rk_2, eO 4 [.ref lw_3, .ref w1_8, .ref w2_9, .int 0, .int 0, .int 0, .ref ho, .ref m1_10, .int 1, .ref m2_11, .ref m3_12, .int (-1), .ref m4_13, .int (-1), .ref m5_14, .ref m6_15, .ref m7_16, .int 0]), (lw_3, eO 2 [.ref ho, .ref l1_4, .ref l2_5, .ref l3_6, .ref l4_7]), (l1_4, eI (ty 0) 1000 (fun _ => 0)), (l2_5, eI (ty 0) 8000 (fun _ => 0)), (l3_6, eI (ty 0) 8 (fun _ => 0)), (l4_7, eI (ty 0) 64 (fun _ => 0)), (w1_8, eO 7 [.int 0, .int (-1)]), (w2_9, eO 7 [.int 0, .int (-1)]), (m1_10, eI (ty 0) 9000 (fun _ => 0)), (m2_11, eI (ty 0) 1000 (fun _ => 0)), (m3_12, eI (ty 0) 1000 (fun _ => 0)), (m4_13, eI (ty 0) 256 (fun _ => 0)), (m5_14, eI (ty 0) 8 (fun _ => 0)), (m6_15, eI (ty 0) 1000 (fun _ => 0)), (m7_16, eI (ty 0) 1000 (fun _ => 0))] := hD
  refine r_get (v := .ref lw_3) C hP 2 rfl rfl lay_X4 0 (by decide) k_405 rfl d_X8_lawBook_4 ?_
  exact ret_R (w := [(h0, eO 8 [.ref rd, .ref ho, .ref nw, .ref tr, .ref ts, .ref im, .ref rk_2]), (ho, eO 0 [.int 0, .int 1, .int 0, .int 0, .int 0, .int 0, .int 0, .int 0, .int 0, .int 0, .ref g1, .ref g2, .ref g3]), (rk_2, eO 4 [.ref lw_3, .ref w1_8, .ref w2_9, .int 0, .int 0, .int 0, .ref ho, .ref m1_10, .int 1, .ref m2_11, .ref m3_12, .int (-1), .ref m4_13, .int (-1), .ref m5_14, .ref m6_15, .ref m7_16, .int 0]), (lw_3, eO 2 [.ref ho, .ref l1_4, .ref l2_5, .ref l3_6, .ref l4_7]), (l1_4, eI (ty 0) 1000 (fun _ => 0)), (l2_5, eI (ty 0) 8000 (fun _ => 0)), (l3_6, eI (ty 0) 8 (fun _ => 0)), (l4_7, eI (ty 0) 64 (fun _ => 0)), (w1_8, eO 7 [.int 0, .int (-1)]), (w2_9, eO 7 [.int 0, .int (-1)]), (m1_10, eI (ty 0) 9000 (fun _ => 0)), (m2_11, eI (ty 0) 1000 (fun _ => 0)), (m3_12, eI (ty 0) 1000 (fun _ => 0)), (m4_13, eI (ty 0) 256 (fun _ => 0)), (m5_14, eI (ty 0) 8 (fun _ => 0)), (m6_15, eI (ty 0) 1000 (fun _ => 0)), (m7_16, eI (ty 0) 1000 (fun _ => 0))]) C hP hD hS [0, 1, 2, 3, 4, 5, 6, 7, 8, 9, 10, 11, 12, 13, 14, 15, 16] rfl rfl ⟨rk_2, lw_3, l1_4, l2_5, l3_6, l4_7, w1_8, w2_9, m1_10, m2_11, m3_12, m4_13, m5_14, m6_15, m7_16, rfl, rfl⟩ (by decide) (by decide) d_X8_lawBook_7
set_option maxHeartbeats 4000000 in
set_option maxRecDepth 100000 in
theorem c_traced (l : Launch) (D : va_G) (ty : Nat → ClassId) (h0 : Nat) (rd : Nat) (ho : Nat) (nw : Nat) (tr : Nat) (ts : Nat) (im : Nat) (g1 : Nat) (g2 : Nat) (g3 : Nat) (n0 : Nat) (n1 : Nat) (n2 : Nat) (n3 : Nat) (b : Nat) (hbd : b < 1000) : CC l D ty ⟨"PinchedBill", "traced", "(I)LPinchedBill$Reckoner;"⟩ prog_1_method_60_code 3 (some (.object "PinchedBill$Reckoner")) 5 115 15 22363 [.ref h0, .int (nI b)] [(h0, eO 8 [.ref rd, .ref ho, .ref nw, .ref tr, .ref ts, .ref im, .null]), (ho, eO 0 [.int 0, .int 1, .int 0, .int 0, .int 0, .int 0, .int 0, .int 0, .int 0, .int 0, .ref g1, .ref g2, .ref g3]), (nw, eO 5 [.ref n0, .int 0, .int 0, .ref n1, .ref n2, .ref n3])] (QR D ty (fun (r : Nat) (w : va_W) => ∃ (rk : Nat) (lw : Nat) (l1 : Nat) (l2 : Nat) (l3 : Nat) (l4 : Nat) (w1 : Nat) (w2 : Nat) (m1 : Nat) (m2 : Nat) (m3 : Nat) (m4 : Nat) (m5 : Nat) (m6 : Nat) (m7 : Nat) (f9 : Nat → Int32) (v9 : Nat → Int32), rk = r ∧ w = [(h0, eO 8 [.ref rd, .ref ho, .ref nw, .ref tr, .ref ts, .ref im, .ref rk]), (ho, eO 0 [.int 0, .int 1, .int 0, .int 0, .int 0, .int 0, .int 0, .int 0, .int 0, .int 0, .ref g1, .ref g2, .ref g3]), (nw, eO 5 [.ref n0, .int 0, .int 0, .ref n1, .ref n2, .ref n3]), (rk, eO 4 [.ref lw, .ref w1, .ref w2, .int (nI b), .int 0, .int 0, .ref ho, .ref m1, .int 9002, .ref m2, .ref m3, .int (-1), .ref m4, .int (-1), .ref m5, .ref m6, .ref m7, .int 0]), (lw, eO 2 [.ref ho, .ref l1, .ref l2, .ref l3, .ref l4]), (l1, eI (ty 0) 1000 f9), (l3, eI (ty 0) 8 v9), (w1, eO 7 [.int (nI b), .int (-1)]), (m5, eI (ty 0) 8 (fun _ => 0))])) := by
  refine CC_of (by decide) ?_
  intro p e s m below meth c A C hP hD hS
  obtain ⟨⟨hx, hb, hml, hown, hts⟩, hr, hlocks, hnm, hK, hE, hA, hZ⟩ := id C
  refine startW [.ref h0, .int (nI b)] 3 (nle rfl) (lv := [(0, .ref h0), (1, .int (nI b))]) rfl (fun ls hl => ?_)
  refine lv_aload_n hx hb d_X8_traced_0 rfl (lv_at hl 0 rfl) ?_
  have ct_1 : Cut [(h0, eO 8 [.ref rd, .ref ho, .ref nw, .ref tr, .ref ts, .ref im, .null]), (ho, eO 0 [.int 0, .int 1, .int 0, .int 0, .int 0, .int 0, .int 0, .int 0, .int 0, .int 0, .ref g1, .ref g2, .ref g3]), (nw, eO 5 [.ref n0, .int 0, .int 0, .ref n1, .ref n2, .ref n3])] [(h0, eO 8 [.ref rd, .ref ho, .ref nw, .ref tr, .ref ts, .ref im, .null]), (ho, eO 0 [.int 0, .int 1, .int 0, .int 0, .int 0, .int 0, .int 0, .int 0, .int 0, .int 0, .ref g1, .ref g2, .ref g3])] [(nw, eO 5 [.ref n0, .int 0, .int 0, .ref n1, .ref n2, .ref n3])] [0, 1] [2] := ⟨rfl, rfl, rfl, rfl, by decide⟩
  refine cont_R C hP hD hS ct_1 (run_V (As := []) (rest := []) C hP hD hS ct_1 (c_reckoned l D ty h0 rd ho nw tr ts im g1 g2 g3) kV_PinchedBill_184 0 rfl rfl rfl rfl hl.1 rfl (nle rfl) d_X8_traced_1 ⟨by decide, by decide, by decide, by decide⟩) (fun r_18 w_19 H locs hw_17 hP hD hS => ?_)
  obtain ⟨rk_2, lw_3, l1_4, l2_5, l3_6, l4_7, w1_8, w2_9, m1_10, m2_11, m3_12, m4_13, m5_14, m6_15, m7_16, rfl, rfl⟩ := hw_17
  have hP : va_P D vwCl [(nw, eO 5 [.ref n0, .int 0, .int 0, .ref n1, .ref n2, .ref n3]), (h0, eO 8 [.ref rd, .ref ho, .ref nw, .ref tr, .ref ts, .ref im, .ref rk_2]), (ho, eO 0 [.int 0, .int 1, .int 0, .int 0, .int 0, .int 0, .int 0, .int 0, .int 0, .int 0, .ref g1, .ref g2, .ref g3]), (rk_2, eO 4 [.ref lw_3, .ref w1_8, .ref w2_9, .int 0, .int 0, .int 0, .ref ho, .ref m1_10, .int 1, .ref m2_11, .ref m3_12, .int (-1), .ref m4_13, .int (-1), .ref m5_14, .ref m6_15, .ref m7_16, .int 0]), (lw_3, eO 2 [.ref ho, .ref l1_4, .ref l2_5, .ref l3_6, .ref l4_7]), (l1_4, eI (ty 0) 1000 (fun _ => 0)), (l2_5, eI (ty 0) 8000 (fun _ => 0)), (l3_6, eI (ty 0) 8 (fun _ => 0)), (l4_7, eI (ty 0) 64 (fun _ => 0)), (w1_8, eO 7 [.int 0, .int (-1)]), (w2_9, eO 7 [.int 0, .int (-1)]), (m1_10, eI (ty 0) 9000 (fun _ => 0)), (m2_11, eI (ty 0) 1000 (fun _ => 0)), (m3_12, eI (ty 0) 1000 (fun _ => 0)), (m4_13, eI (ty 0) 256 (fun _ => 0)), (m5_14, eI (ty 0) 8 (fun _ => 0)), (m6_15, eI (ty 0) 1000 (fun _ => 0)), (m7_16, eI (ty 0) 1000 (fun _ => 0))] H := hP
  have hD : va_D A [(nw, eO 5 [.ref n0, .int 0, .int 0, .ref n1, .ref n2, .ref n3]), (h0, eO 8 [.ref rd, .ref ho, .ref nw, .ref tr, .ref ts, .ref im, .ref rk_2]), (ho, eO 0 [.int 0, .int 1, .int 0, .int 0, .int 0, .int 0, .int 0, .int 0, .int 0, .int 0, .ref g1, .ref g2, .ref g3]), (rk_2, eO 4 [.ref lw_3, .ref w1_8, .ref w2_9, .int 0, .int 0, .int 0, .ref ho, .ref m1_10, .int 1, .ref m2_11, .ref m3_12, .int (-1), .ref m4_13, .int (-1), .ref m5_14, .ref m6_15, .ref m7_16, .int 0]), (lw_3, eO 2 [.ref ho, .ref l1_4, .ref l2_5, .ref l3_6, .ref l4_7]), (l1_4, eI (ty 0) 1000 (fun _ => 0)), (l2_5, eI (ty 0) 8000 (fun _ => 0)), (l3_6, eI (ty 0) 8 (fun _ => 0)), (l4_7, eI (ty 0) 64 (fun _ => 0)), (w1_8, eO 7 [.int 0, .int (-1)]), (w2_9, eO 7 [.int 0, .int (-1)]), (m1_10, eI (ty 0) 9000 (fun _ => 0)), (m2_11, eI (ty 0) 1000 (fun _ => 0)), (m3_12, eI (ty 0) 1000 (fun _ => 0)), (m4_13, eI (ty 0) 256 (fun _ => 0)), (m5_14, eI (ty 0) 8 (fun _ => 0)), (m6_15, eI (ty 0) 1000 (fun _ => 0)), (m7_16, eI (ty 0) 1000 (fun _ => 0))] := hD
  refine lv_astore_n (lv' := [(2, .ref rk_2), (0, .ref h0), (1, .int (nI b))]) hx hb d_X8_traced_4 rfl hl (by decide) rfl (fun ls hl => ?_)
  refine lv_aload_n hx hb d_X8_traced_5 rfl (lv_at hl 0 rfl) ?_
  refine lv_iload_n hx hb d_X8_traced_6 rfl (lv_at hl 2 rfl) ?_
  refine lv_aload_n hx hb d_X8_traced_7 rfl (lv_at hl 1 rfl) ?_
  refine r_get (v := .ref nw) C hP 1 rfl rfl lay_X8 2 (by decide) k_322 rfl d_X8_traced_8 ?_
  refine r_get (v := .int 0) C hP 0 rfl rfl lay_X5 1 (by decide) k_297 rfl d_X8_traced_11 ?_
  have ct_20 : Cut [(nw, eO 5 [.ref n0, .int 0, .int 0, .ref n1, .ref n2, .ref n3]), (h0, eO 8 [.ref rd, .ref ho, .ref nw, .ref tr, .ref ts, .ref im, .ref rk_2]), (ho, eO 0 [.int 0, .int 1, .int 0, .int 0, .int 0, .int 0, .int 0, .int 0, .int 0, .int 0, .ref g1, .ref g2, .ref g3]), (rk_2, eO 4 [.ref lw_3, .ref w1_8, .ref w2_9, .int 0, .int 0, .int 0, .ref ho, .ref m1_10, .int 1, .ref m2_11, .ref m3_12, .int (-1), .ref m4_13, .int (-1), .ref m5_14, .ref m6_15, .ref m7_16, .int 0]), (lw_3, eO 2 [.ref ho, .ref l1_4, .ref l2_5, .ref l3_6, .ref l4_7]), (l1_4, eI (ty 0) 1000 (fun _ => 0)), (l2_5, eI (ty 0) 8000 (fun _ => 0)), (l3_6, eI (ty 0) 8 (fun _ => 0)), (l4_7, eI (ty 0) 64 (fun _ => 0)), (w1_8, eO 7 [.int 0, .int (-1)]), (w2_9, eO 7 [.int 0, .int (-1)]), (m1_10, eI (ty 0) 9000 (fun _ => 0)), (m2_11, eI (ty 0) 1000 (fun _ => 0)), (m3_12, eI (ty 0) 1000 (fun _ => 0)), (m4_13, eI (ty 0) 256 (fun _ => 0)), (m5_14, eI (ty 0) 8 (fun _ => 0)), (m6_15, eI (ty 0) 1000 (fun _ => 0)), (m7_16, eI (ty 0) 1000 (fun _ => 0))] [(rk_2, eO 4 [.ref lw_3, .ref w1_8, .ref w2_9, .int 0, .int 0, .int 0, .ref ho, .ref m1_10, .int 1, .ref m2_11, .ref m3_12, .int (-1), .ref m4_13, .int (-1), .ref m5_14, .ref m6_15, .ref m7_16, .int 0]), (lw_3, eO 2 [.ref ho, .ref l1_4, .ref l2_5, .ref l3_6, .ref l4_7]), (ho, eO 0 [.int 0, .int 1, .int 0, .int 0, .int 0, .int 0, .int 0, .int 0, .int 0, .int 0, .ref g1, .ref g2, .ref g3]), (l1_4, eI (ty 0) 1000 (fun _ => 0)), (l3_6, eI (ty 0) 8 (fun _ => 0)), (w1_8, eO 7 [.int 0, .int (-1)]), (m1_10, eI (ty 0) 9000 (fun _ => 0))] [(nw, eO 5 [.ref n0, .int 0, .int 0, .ref n1, .ref n2, .ref n3]), (h0, eO 8 [.ref rd, .ref ho, .ref nw, .ref tr, .ref ts, .ref im, .ref rk_2]), (l2_5, eI (ty 0) 8000 (fun _ => 0)), (l4_7, eI (ty 0) 64 (fun _ => 0)), (w2_9, eO 7 [.int 0, .int (-1)]), (m2_11, eI (ty 0) 1000 (fun _ => 0)), (m3_12, eI (ty 0) 1000 (fun _ => 0)), (m4_13, eI (ty 0) 256 (fun _ => 0)), (m5_14, eI (ty 0) 8 (fun _ => 0)), (m6_15, eI (ty 0) 1000 (fun _ => 0)), (m7_16, eI (ty 0) 1000 (fun _ => 0))] [3, 4, 2, 5, 7, 9, 11] [0, 1, 6, 8, 10, 12, 13, 14, 15, 16, 17] := ⟨rfl, rfl, rfl, rfl, by decide⟩
  refine cont_V C hP hD hS ct_20 (run_V (As := [.int (nI b), .int 0]) (rest := []) C hP hD hS ct_20 (c_trace l D ty rk_2 ho lw_3 l1_4 l2_5 l3_6 l4_7 w1_8 w2_9 m1_10 m2_11 m3_12 m4_13 m5_14 m6_15 m7_16 g1 g2 g3 0 0 0 (-1) (-1) 0 1 0 (-1) (fun _ => 0) (fun _ => 0) (fun _ => 0) b hbd B01_0 (by omega) MK_0) kV_PinchedBill_358 3 rfl rfl rfl rfl hl.1 rfl (nle rfl) d_X8_traced_14 ⟨by decide, by decide, by decide, by decide⟩) (fun w_26 H locs hw_24 hP hD hS => ?_)
  obtain ⟨f9_21, v9_22, g9_23, hf9_27, hmk9_28, rfl⟩ := hw_24
  have hP : va_P D vwCl [(nw, eO 5 [.ref n0, .int 0, .int 0, .ref n1, .ref n2, .ref n3]), (h0, eO 8 [.ref rd, .ref ho, .ref nw, .ref tr, .ref ts, .ref im, .ref rk_2]), (l2_5, eI (ty 0) 8000 (fun _ => 0)), (l4_7, eI (ty 0) 64 (fun _ => 0)), (w2_9, eO 7 [.int 0, .int (-1)]), (m2_11, eI (ty 0) 1000 (fun _ => 0)), (m3_12, eI (ty 0) 1000 (fun _ => 0)), (m4_13, eI (ty 0) 256 (fun _ => 0)), (m5_14, eI (ty 0) 8 (fun _ => 0)), (m6_15, eI (ty 0) 1000 (fun _ => 0)), (m7_16, eI (ty 0) 1000 (fun _ => 0)), (rk_2, eO 4 [.ref lw_3, .ref w1_8, .ref w2_9, .int (nI b), .int 0, .int 0, .ref ho, .ref m1_10, .int 9002, .ref m2_11, .ref m3_12, .int (-1), .ref m4_13, .int (-1), .ref m5_14, .ref m6_15, .ref m7_16, .int 0]), (lw_3, eO 2 [.ref ho, .ref l1_4, .ref l2_5, .ref l3_6, .ref l4_7]), (ho, eO 0 [.int 0, .int 1, .int 0, .int 0, .int 0, .int 0, .int 0, .int 0, .int 0, .int 0, .ref g1, .ref g2, .ref g3]), (l1_4, eI (ty 0) 1000 f9_21), (l3_6, eI (ty 0) 8 v9_22), (w1_8, eO 7 [.int (nI b), .int (-1)]), (m1_10, eI (ty 0) 9000 g9_23)] H := hP
  have hD : va_D A [(nw, eO 5 [.ref n0, .int 0, .int 0, .ref n1, .ref n2, .ref n3]), (h0, eO 8 [.ref rd, .ref ho, .ref nw, .ref tr, .ref ts, .ref im, .ref rk_2]), (l2_5, eI (ty 0) 8000 (fun _ => 0)), (l4_7, eI (ty 0) 64 (fun _ => 0)), (w2_9, eO 7 [.int 0, .int (-1)]), (m2_11, eI (ty 0) 1000 (fun _ => 0)), (m3_12, eI (ty 0) 1000 (fun _ => 0)), (m4_13, eI (ty 0) 256 (fun _ => 0)), (m5_14, eI (ty 0) 8 (fun _ => 0)), (m6_15, eI (ty 0) 1000 (fun _ => 0)), (m7_16, eI (ty 0) 1000 (fun _ => 0)), (rk_2, eO 4 [.ref lw_3, .ref w1_8, .ref w2_9, .int (nI b), .int 0, .int 0, .ref ho, .ref m1_10, .int 9002, .ref m2_11, .ref m3_12, .int (-1), .ref m4_13, .int (-1), .ref m5_14, .ref m6_15, .ref m7_16, .int 0]), (lw_3, eO 2 [.ref ho, .ref l1_4, .ref l2_5, .ref l3_6, .ref l4_7]), (ho, eO 0 [.int 0, .int 1, .int 0, .int 0, .int 0, .int 0, .int 0, .int 0, .int 0, .int 0, .ref g1, .ref g2, .ref g3]), (l1_4, eI (ty 0) 1000 f9_21), (l3_6, eI (ty 0) 8 v9_22), (w1_8, eO 7 [.int (nI b), .int (-1)]), (m1_10, eI (ty 0) 9000 g9_23)] := hD
  refine lv_aload_n hx hb d_X8_traced_17 rfl (lv_at hl 0 rfl) ?_
  exact ret_R (w := [(h0, eO 8 [.ref rd, .ref ho, .ref nw, .ref tr, .ref ts, .ref im, .ref rk_2]), (ho, eO 0 [.int 0, .int 1, .int 0, .int 0, .int 0, .int 0, .int 0, .int 0, .int 0, .int 0, .ref g1, .ref g2, .ref g3]), (nw, eO 5 [.ref n0, .int 0, .int 0, .ref n1, .ref n2, .ref n3]), (rk_2, eO 4 [.ref lw_3, .ref w1_8, .ref w2_9, .int (nI b), .int 0, .int 0, .ref ho, .ref m1_10, .int 9002, .ref m2_11, .ref m3_12, .int (-1), .ref m4_13, .int (-1), .ref m5_14, .ref m6_15, .ref m7_16, .int 0]), (lw_3, eO 2 [.ref ho, .ref l1_4, .ref l2_5, .ref l3_6, .ref l4_7]), (l1_4, eI (ty 0) 1000 f9_21), (l3_6, eI (ty 0) 8 v9_22), (w1_8, eO 7 [.int (nI b), .int (-1)]), (m5_14, eI (ty 0) 8 (fun _ => 0))]) C hP hD hS [1, 13, 0, 11, 12, 14, 15, 16, 8] rfl rfl ⟨rk_2, lw_3, l1_4, l2_5, l3_6, l4_7, w1_8, w2_9, m1_10, m2_11, m3_12, m4_13, m5_14, m6_15, m7_16, f9_21, v9_22, rfl, rfl⟩ (by decide) (by decide) d_X8_traced_18

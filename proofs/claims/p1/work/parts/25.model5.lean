theorem d_X9_person_0 : decode prog_11_method_55_code 0 = .ok (.aload_n 0, 1) := by decide +kernel
theorem d_X9_person_1 : decode prog_11_method_55_code 1 = .ok (.aload_n 0, 1) := by decide +kernel
theorem d_X9_person_2 : decode prog_11_method_55_code 2 = .ok (.iload_n 1, 1) := by decide +kernel
theorem d_X9_person_3 : decode prog_11_method_55_code 3 = .ok (.i2l, 1) := by decide +kernel
theorem k_1819 : Cond.code ⟨"PinchedBillModel", "isPerson", "(J)Z"⟩ prog_11_method_38_code 3 (some .boolean) ∈ gd_tbl := gd_in 1819 (by decide +kernel) (by decide +kernel)
theorem k_1816 : Cond.methodLink "PinchedBillModel" 320 ⟨"PinchedBillModel", "isPerson", "(J)Z"⟩ ∈ gd_tbl := gd_in 1816 (by decide +kernel) (by decide +kernel)
theorem k_1818 : Cond.instanceMethod ⟨"PinchedBillModel", "isPerson", "(J)Z"⟩ ∈ gd_tbl := gd_in 1818 (by decide +kernel) (by decide +kernel)
theorem k_76 : Cond.selects "PinchedBillModel" ⟨"PinchedBillModel", "isPerson", "(J)Z"⟩ ⟨"PinchedBillModel", "isPerson", "(J)Z"⟩ ∈ gd_tbl := gd_in 76 (by decide +kernel) (by decide +kernel)
theorem kV_PinchedBillModel_320 : kV "PinchedBillModel" 320 ⟨"PinchedBillModel", "isPerson", "(J)Z"⟩ prog_11_method_38_code 3 (some .boolean) 1 := ⟨k_1816, k_1818, k_76, k_122, k_1819, by decide, by decide, by decide +kernel⟩
theorem d_X9_person_4 : decode prog_11_method_55_code 4 = .ok (.invokevirtual 320, 3) := by decide +kernel
theorem d_X9_person_7 : decode prog_11_method_55_code 7 = .ok (.ifCond .ne 7, 3) := by decide +kernel
theorem d_X9_person_10 : decode prog_11_method_55_code 10 = .ok (.iconst 1, 1) := by decide +kernel
theorem d_X9_person_11 : decode prog_11_method_55_code 11 = .ok (.goto 20, 3) := by decide +kernel
theorem d_X9_person_31 : decode prog_11_method_55_code 31 = .ok (.putfield 79, 3) := by decide +kernel
theorem d_X9_person_34 : decode prog_11_method_55_code 34 = .ok (.aload_n 0, 1) := by decide +kernel
theorem d_X9_person_35 : decode prog_11_method_55_code 35 = .ok (.getfield 79, 3) := by decide +kernel
theorem d_X9_person_38 : decode prog_11_method_55_code 38 = .ok (.ifCond .le 5, 3) := by decide +kernel
theorem d_X9_person_41 : decode prog_11_method_55_code 41 = .ok (.iconst 0, 1) := by decide +kernel
theorem d_X9_person_42 : decode prog_11_method_55_code 42 = .ok (.ireturn, 1) := by decide +kernel
theorem d_X9_spoken_0 : decode prog_11_method_60_code 0 = .ok (.aload_n 0, 1) := by decide +kernel
theorem d_X9_spoken_1 : decode prog_11_method_60_code 1 = .ok (.aload_n 0, 1) := by decide +kernel
theorem d_X9_spoken_2 : decode prog_11_method_60_code 2 = .ok (.iload_n 2, 1) := by decide +kernel
theorem d_X9_spoken_3 : decode prog_11_method_60_code 3 = .ok (.i2l, 1) := by decide +kernel
theorem d_X9_spoken_4 : decode prog_11_method_60_code 4 = .ok (.invokevirtual 320, 3) := by decide +kernel
theorem d_X9_spoken_7 : decode prog_11_method_60_code 7 = .ok (.ifCond .ne 7, 3) := by decide +kernel
theorem d_X9_spoken_10 : decode prog_11_method_60_code 10 = .ok (.iconst 1, 1) := by decide +kernel
theorem d_X9_spoken_11 : decode prog_11_method_60_code 11 = .ok (.goto 17, 3) := by decide +kernel
theorem d_X9_spoken_28 : decode prog_11_method_60_code 28 = .ok (.putfield 79, 3) := by decide +kernel
theorem d_X9_spoken_31 : decode prog_11_method_60_code 31 = .ok (.aload_n 0, 1) := by decide +kernel
theorem d_X9_spoken_32 : decode prog_11_method_60_code 32 = .ok (.getfield 79, 3) := by decide +kernel
theorem d_X9_spoken_35 : decode prog_11_method_60_code 35 = .ok (.ifCond .le 7, 3) := by decide +kernel
theorem d_X9_spoken_38 : decode prog_11_method_60_code 38 = .ok (.iconst 0, 1) := by decide +kernel
theorem d_X9_spoken_39 : decode prog_11_method_60_code 39 = .ok (.goto 14, 3) := by decide +kernel
theorem d_X9_spoken_53 : decode prog_11_method_60_code 53 = .ok (.ireturn, 1) := by decide +kernel
theorem d_X9_share_0 : decode prog_11_method_108_code 0 = .ok (.aload_n 0, 1) := by decide +kernel
theorem d_X9_share_1 : decode prog_11_method_108_code 1 = .ok (.aload_n 0, 1) := by decide +kernel
theorem d_X9_share_2 : decode prog_11_method_108_code 2 = .ok (.iload_n 2, 1) := by decide +kernel
theorem d_X9_share_3 : decode prog_11_method_108_code 3 = .ok (.i2l, 1) := by decide +kernel
theorem d_X9_share_4 : decode prog_11_method_108_code 4 = .ok (.invokevirtual 320, 3) := by decide +kernel
theorem d_X9_share_7 : decode prog_11_method_108_code 7 = .ok (.ifCond .ne 7, 3) := by decide +kernel
theorem d_X9_share_10 : decode prog_11_method_108_code 10 = .ok (.iconst 1, 1) := by decide +kernel
theorem d_X9_share_11 : decode prog_11_method_108_code 11 = .ok (.goto 24, 3) := by decide +kernel
theorem d_X9_share_35 : decode prog_11_method_108_code 35 = .ok (.putfield 79, 3) := by decide +kernel
theorem d_X9_share_38 : decode prog_11_method_108_code 38 = .ok (.aload_n 0, 1) := by decide +kernel
theorem d_X9_share_39 : decode prog_11_method_108_code 39 = .ok (.getfield 79, 3) := by decide +kernel
theorem d_X9_share_42 : decode prog_11_method_108_code 42 = .ok (.ifCond .le 5, 3) := by decide +kernel
theorem d_X9_share_45 : decode prog_11_method_108_code 45 = .ok (.iconst 0, 1) := by decide +kernel
theorem d_X9_share_46 : decode prog_11_method_108_code 46 = .ok (.ireturn, 1) := by decide +kernel
theorem d_X9_whyMove_0 : decode prog_11_method_64_code 0 = .ok (.aload_n 0, 1) := by decide +kernel
theorem d_X9_whyMove_1 : decode prog_11_method_64_code 1 = .ok (.lload_n 1, 1) := by decide +kernel
theorem d_X9_whyMove_2 : decode prog_11_method_64_code 2 = .ok (.invokevirtual 320, 3) := by decide +kernel
theorem d_X9_whyMove_5 : decode prog_11_method_64_code 5 = .ok (.ifCond .ne 7, 3) := by decide +kernel
theorem d_X9_whyMove_8 : decode prog_11_method_64_code 8 = .ok (.iconst 1, 1) := by decide +kernel
theorem d_X9_whyMove_9 : decode prog_11_method_64_code 9 = .ok (.goto 24, 3) := by decide +kernel
theorem d_X9_whyMove_33 : decode prog_11_method_64_code 33 = .ok (.ireturn, 1) := by decide +kernel
theorem d_X9_moves_0 : decode prog_11_method_68_code 0 = .ok (.aload_n 0, 1) := by decide +kernel
theorem d_X9_moves_1 : decode prog_11_method_68_code 1 = .ok (.iconst 0, 1) := by decide +kernel
theorem d_X9_moves_2 : decode prog_11_method_68_code 2 = .ok (.putfield 79, 3) := by decide +kernel
theorem d_X9_moves_5 : decode prog_11_method_68_code 5 = .ok (.aload_n 0, 1) := by decide +kernel
theorem d_X9_moves_6 : decode prog_11_method_68_code 6 = .ok (.iload_n 1, 1) := by decide +kernel
theorem d_X9_moves_7 : decode prog_11_method_68_code 7 = .ok (.i2l, 1) := by decide +kernel
theorem d_X9_moves_8 : decode prog_11_method_68_code 8 = .ok (.iload_n 2, 1) := by decide +kernel
theorem k_1888 : Cond.code ⟨"PinchedBillModel", "whyMove", "(JZ)I"⟩ prog_11_method_64_code 4 (some .int) ∈ gd_tbl := gd_in 1888 (by decide +kernel) (by decide +kernel)
theorem k_1885 : Cond.methodLink "PinchedBillModel" 339 ⟨"PinchedBillModel", "whyMove", "(JZ)I"⟩ ∈ gd_tbl := gd_in 1885 (by decide +kernel) (by decide +kernel)
theorem k_1887 : Cond.instanceMethod ⟨"PinchedBillModel", "whyMove", "(JZ)I"⟩ ∈ gd_tbl := gd_in 1887 (by decide +kernel) (by decide +kernel)
theorem k_84 : Cond.selects "PinchedBillModel" ⟨"PinchedBillModel", "whyMove", "(JZ)I"⟩ ⟨"PinchedBillModel", "whyMove", "(JZ)I"⟩ ∈ gd_tbl := gd_in 84 (by decide +kernel) (by decide +kernel)
theorem kV_PinchedBillModel_339 : kV "PinchedBillModel" 339 ⟨"PinchedBillModel", "whyMove", "(JZ)I"⟩ prog_11_method_64_code 4 (some .int) 2 := ⟨k_1885, k_1887, k_84, k_122, k_1888, by decide, by decide, by decide +kernel⟩
theorem d_X9_moves_9 : decode prog_11_method_68_code 9 = .ok (.invokevirtual 339, 3) := by decide +kernel
theorem d_X9_moves_12 : decode prog_11_method_68_code 12 = .ok (.istore_n 3, 1) := by decide +kernel
theorem d_X9_moves_13 : decode prog_11_method_68_code 13 = .ok (.iload_n 3, 1) := by decide +kernel
theorem d_X9_moves_14 : decode prog_11_method_68_code 14 = .ok (.ifCond .eq 6, 3) := by decide +kernel
theorem d_X9_moves_17 : decode prog_11_method_68_code 17 = .ok (.iload_n 3, 1) := by decide +kernel
theorem d_X9_moves_18 : decode prog_11_method_68_code 18 = .ok (.ineg, 1) := by decide +kernel
theorem d_X9_moves_19 : decode prog_11_method_68_code 19 = .ok (.ireturn, 1) := by decide +kernel
theorem d_X9_send_0 : decode prog_11_method_69_code 0 = .ok (.aload_n 0, 1) := by decide +kernel
theorem d_X9_send_1 : decode prog_11_method_69_code 1 = .ok (.iload_n 1, 1) := by decide +kernel
theorem d_X9_send_2 : decode prog_11_method_69_code 2 = .ok (.iconst 1, 1) := by decide +kernel
theorem k_1884 : Cond.code ⟨"PinchedBillModel", "moves", "(IZ)I"⟩ prog_11_method_68_code 4 (some .int) ∈ gd_tbl := gd_in 1884 (by decide +kernel) (by decide +kernel)
theorem k_1881 : Cond.methodLink "PinchedBillModel" 346 ⟨"PinchedBillModel", "moves", "(IZ)I"⟩ ∈ gd_tbl := gd_in 1881 (by decide +kernel) (by decide +kernel)
theorem k_1883 : Cond.instanceMethod ⟨"PinchedBillModel", "moves", "(IZ)I"⟩ ∈ gd_tbl := gd_in 1883 (by decide +kernel) (by decide +kernel)
theorem k_83 : Cond.selects "PinchedBillModel" ⟨"PinchedBillModel", "moves", "(IZ)I"⟩ ⟨"PinchedBillModel", "moves", "(IZ)I"⟩ ∈ gd_tbl := gd_in 83 (by decide +kernel) (by decide +kernel)
theorem kV_PinchedBillModel_346 : kV "PinchedBillModel" 346 ⟨"PinchedBillModel", "moves", "(IZ)I"⟩ prog_11_method_68_code 4 (some .int) 2 := ⟨k_1881, k_1883, k_83, k_122, k_1884, by decide, by decide, by decide +kernel⟩
theorem d_X9_send_3 : decode prog_11_method_69_code 3 = .ok (.invokevirtual 346, 3) := by decide +kernel
theorem d_X9_send_6 : decode prog_11_method_69_code 6 = .ok (.ireturn, 1) := by decide +kernel
theorem d_X9_call_0 : decode prog_11_method_70_code 0 = .ok (.aload_n 0, 1) := by decide +kernel
theorem d_X9_call_1 : decode prog_11_method_70_code 1 = .ok (.iload_n 1, 1) := by decide +kernel
theorem d_X9_call_2 : decode prog_11_method_70_code 2 = .ok (.iconst 0, 1) := by decide +kernel
theorem d_X9_call_3 : decode prog_11_method_70_code 3 = .ok (.invokevirtual 346, 3) := by decide +kernel
theorem d_X9_call_6 : decode prog_11_method_70_code 6 = .ok (.ireturn, 1) := by decide +kernel
theorem d_X9_keeps_0 : decode prog_11_method_61_code 0 = .ok (.aload_n 0, 1) := by decide +kernel
theorem d_X9_keeps_1 : decode prog_11_method_61_code 1 = .ok (.getfield 9, 3) := by decide +kernel
theorem d_X9_keeps_4 : decode prog_11_method_61_code 4 = .ok (.iconst 5, 1) := by decide +kernel
theorem d_X9_keeps_5 : decode prog_11_method_61_code 5 = .ok (.iaload, 1) := by decide +kernel
theorem d_X9_keeps_6 : decode prog_11_method_61_code 6 = .ok (.bipush 10, 2) := by decide +kernel
theorem d_X9_keeps_8 : decode prog_11_method_61_code 8 = .ok (.if_icmp .ne 42, 3) := by decide +kernel
theorem d_X9_keeps_50 : decode prog_11_method_61_code 50 = .ok (.iconst 0, 1) := by decide +kernel
theorem d_X9_keeps_51 : decode prog_11_method_61_code 51 = .ok (.istore_n 1, 1) := by decide +kernel
theorem d_X9_keeps_52 : decode prog_11_method_61_code 52 = .ok (.iload_n 1, 1) := by decide +kernel
theorem d_X9_keeps_53 : decode prog_11_method_61_code 53 = .ok (.iconst 3, 1) := by decide +kernel
theorem d_X9_keeps_54 : decode prog_11_method_61_code 54 = .ok (.if_icmp .ge 36, 3) := by decide +kernel
theorem d_X9_keeps_57 : decode prog_11_method_61_code 57 = .ok (.aload_n 0, 1) := by decide +kernel
theorem d_X9_keeps_58 : decode prog_11_method_61_code 58 = .ok (.getfield 9, 3) := by decide +kernel
theorem d_X9_keeps_61 : decode prog_11_method_61_code 61 = .ok (.bipush 41, 2) := by decide +kernel
theorem d_X9_keeps_63 : decode prog_11_method_61_code 63 = .ok (.iconst 3, 1) := by decide +kernel
theorem d_X9_keeps_64 : decode prog_11_method_61_code 64 = .ok (.aload_n 0, 1) := by decide +kernel
theorem d_X9_keeps_65 : decode prog_11_method_61_code 65 = .ok (.getfield 9, 3) := by decide +kernel
theorem d_X9_keeps_68 : decode prog_11_method_61_code 68 = .ok (.iconst 5, 1) := by decide +kernel
theorem d_X9_keeps_69 : decode prog_11_method_61_code 69 = .ok (.iaload, 1) := by decide +kernel
theorem d_X9_keeps_70 : decode prog_11_method_61_code 70 = .ok (.imul, 1) := by decide +kernel
theorem d_X9_keeps_71 : decode prog_11_method_61_code 71 = .ok (.iadd, 1) := by decide +kernel
theorem d_X9_keeps_72 : decode prog_11_method_61_code 72 = .ok (.iload_n 1, 1) := by decide +kernel
theorem d_X9_keeps_73 : decode prog_11_method_61_code 73 = .ok (.iadd, 1) := by decide +kernel
theorem d_X9_keeps_74 : decode prog_11_method_61_code 74 = .ok (.aload_n 0, 1) := by decide +kernel
theorem d_X9_keeps_75 : decode prog_11_method_61_code 75 = .ok (.getfield 9, 3) := by decide +kernel
theorem d_X9_keeps_78 : decode prog_11_method_61_code 78 = .ok (.bipush 6, 2) := by decide +kernel
theorem d_X9_keeps_80 : decode prog_11_method_61_code 80 = .ok (.iload_n 1, 1) := by decide +kernel
theorem d_X9_keeps_81 : decode prog_11_method_61_code 81 = .ok (.iadd, 1) := by decide +kernel
theorem d_X9_keeps_82 : decode prog_11_method_61_code 82 = .ok (.iaload, 1) := by decide +kernel
theorem d_X9_keeps_83 : decode prog_11_method_61_code 83 = .ok (.iastore, 1) := by decide +kernel
theorem d_X9_keeps_84 : decode prog_11_method_61_code 84 = .ok (.iinc 1 1, 3) := by decide +kernel
theorem d_X9_keeps_87 : decode prog_11_method_61_code 87 = .ok (.goto (-35), 3) := by decide +kernel
theorem d_X9_keeps_90 : decode prog_11_method_61_code 90 = .ok (.aload_n 0, 1) := by decide +kernel
theorem d_X9_keeps_91 : decode prog_11_method_61_code 91 = .ok (.getfield 9, 3) := by decide +kernel
theorem d_X9_keeps_94 : decode prog_11_method_61_code 94 = .ok (.iconst 5, 1) := by decide +kernel
theorem d_X9_keeps_95 : decode prog_11_method_61_code 95 = .ok (.dup2, 1) := by decide +kernel
theorem d_X9_keeps_96 : decode prog_11_method_61_code 96 = .ok (.iaload, 1) := by decide +kernel
theorem d_X9_keeps_97 : decode prog_11_method_61_code 97 = .ok (.iconst 1, 1) := by decide +kernel
theorem d_X9_keeps_98 : decode prog_11_method_61_code 98 = .ok (.iadd, 1) := by decide +kernel
theorem d_X9_keeps_99 : decode prog_11_method_61_code 99 = .ok (.iastore, 1) := by decide +kernel
theorem d_X9_keeps_100 : decode prog_11_method_61_code 100 = .ok (.return_, 1) := by decide +kernel
theorem d_X9_keeps_11 : decode prog_11_method_61_code 11 = .ok (.bipush 41, 2) := by decide +kernel
theorem d_X9_keeps_13 : decode prog_11_method_61_code 13 = .ok (.istore_n 1, 1) := by decide +kernel
theorem d_X9_keeps_14 : decode prog_11_method_61_code 14 = .ok (.iload_n 1, 1) := by decide +kernel
theorem d_X9_keeps_15 : decode prog_11_method_61_code 15 = .ok (.bipush 68, 2) := by decide +kernel
theorem d_X9_keeps_17 : decode prog_11_method_61_code 17 = .ok (.if_icmp .ge 23, 3) := by decide +kernel
theorem d_X9_keeps_40 : decode prog_11_method_61_code 40 = .ok (.aload_n 0, 1) := by decide +kernel
theorem d_X9_keeps_41 : decode prog_11_method_61_code 41 = .ok (.getfield 9, 3) := by decide +kernel
theorem d_X9_keeps_44 : decode prog_11_method_61_code 44 = .ok (.iconst 5, 1) := by decide +kernel
theorem d_X9_keeps_45 : decode prog_11_method_61_code 45 = .ok (.dup2, 1) := by decide +kernel
theorem d_X9_keeps_46 : decode prog_11_method_61_code 46 = .ok (.iaload, 1) := by decide +kernel
theorem d_X9_keeps_47 : decode prog_11_method_61_code 47 = .ok (.iconst 1, 1) := by decide +kernel
theorem d_X9_keeps_48 : decode prog_11_method_61_code 48 = .ok (.isub, 1) := by decide +kernel
theorem d_X9_keeps_49 : decode prog_11_method_61_code 49 = .ok (.iastore, 1) := by decide +kernel
theorem d_X9_keeps_20 : decode prog_11_method_61_code 20 = .ok (.aload_n 0, 1) := by decide +kernel
theorem d_X9_keeps_21 : decode prog_11_method_61_code 21 = .ok (.getfield 9, 3) := by decide +kernel
theorem d_X9_keeps_24 : decode prog_11_method_61_code 24 = .ok (.iload_n 1, 1) := by decide +kernel
theorem d_X9_keeps_25 : decode prog_11_method_61_code 25 = .ok (.aload_n 0, 1) := by decide +kernel
theorem d_X9_keeps_26 : decode prog_11_method_61_code 26 = .ok (.getfield 9, 3) := by decide +kernel
theorem d_X9_keeps_29 : decode prog_11_method_61_code 29 = .ok (.iload_n 1, 1) := by decide +kernel
theorem d_X9_keeps_30 : decode prog_11_method_61_code 30 = .ok (.iconst 3, 1) := by decide +kernel
theorem d_X9_keeps_31 : decode prog_11_method_61_code 31 = .ok (.iadd, 1) := by decide +kernel
theorem d_X9_keeps_32 : decode prog_11_method_61_code 32 = .ok (.iaload, 1) := by decide +kernel
theorem d_X9_keeps_33 : decode prog_11_method_61_code 33 = .ok (.iastore, 1) := by decide +kernel
theorem d_X9_keeps_34 : decode prog_11_method_61_code 34 = .ok (.iinc 1 1, 3) := by decide +kernel
theorem d_X9_keeps_37 : decode prog_11_method_61_code 37 = .ok (.goto (-23), 3) := by decide +kernel
theorem d_X9_goesStep_0 : decode prog_11_method_54_code 0 = .ok (.aload_n 0, 1) := by decide +kernel
theorem d_X9_goesStep_1 : decode prog_11_method_54_code 1 = .ok (.invokevirtual 317, 3) := by decide +kernel
theorem d_X9_goesStep_4 : decode prog_11_method_54_code 4 = .ok (.istore_n 1, 1) := by decide +kernel
theorem d_X9_goesStep_5 : decode prog_11_method_54_code 5 = .ok (.iload_n 1, 1) := by decide +kernel
theorem d_X9_goesStep_6 : decode prog_11_method_54_code 6 = .ok (.iconst (-1), 1) := by decide +kernel
theorem d_X9_goesStep_7 : decode prog_11_method_54_code 7 = .ok (.if_icmp .ne 5, 3) := by decide +kernel
theorem d_X9_goesStep_10 : decode prog_11_method_54_code 10 = .ok (.iconst 0, 1) := by decide +kernel
theorem d_X9_goesStep_11 : decode prog_11_method_54_code 11 = .ok (.ireturn, 1) := by decide +kernel
theorem d_X9_drafts_0 : decode prog_11_method_65_code 0 = .ok (.aload_n 0, 1) := by decide +kernel
theorem d_X9_drafts_1 : decode prog_11_method_65_code 1 = .ok (.getfield 9, 3) := by decide +kernel
theorem d_X9_drafts_4 : decode prog_11_method_65_code 4 = .ok (.bipush 6, 2) := by decide +kernel
theorem d_X9_drafts_6 : decode prog_11_method_65_code 6 = .ok (.iload_n 1, 1) := by decide +kernel
theorem d_X9_drafts_7 : decode prog_11_method_65_code 7 = .ok (.iastore, 1) := by decide +kernel
theorem d_X9_drafts_8 : decode prog_11_method_65_code 8 = .ok (.aload_n 0, 1) := by decide +kernel
theorem d_X9_drafts_9 : decode prog_11_method_65_code 9 = .ok (.getfield 9, 3) := by decide +kernel
theorem d_X9_drafts_12 : decode prog_11_method_65_code 12 = .ok (.bipush 7, 2) := by decide +kernel
theorem d_X9_drafts_14 : decode prog_11_method_65_code 14 = .ok (.iconst (-1), 1) := by decide +kernel
theorem d_X9_drafts_15 : decode prog_11_method_65_code 15 = .ok (.iastore, 1) := by decide +kernel
theorem d_X9_drafts_16 : decode prog_11_method_65_code 16 = .ok (.return_, 1) := by decide +kernel
theorem d_X9_steps_0 : decode prog_11_method_66_code 0 = .ok (.aload_n 0, 1) := by decide +kernel
theorem d_X9_steps_1 : decode prog_11_method_66_code 1 = .ok (.iconst 0, 1) := by decide +kernel
theorem d_X9_steps_2 : decode prog_11_method_66_code 2 = .ok (.putfield 79, 3) := by decide +kernel
theorem d_X9_steps_5 : decode prog_11_method_66_code 5 = .ok (.iload_n 1, 1) := by decide +kernel
theorem d_X9_steps_6 : decode prog_11_method_66_code 6 = .ok (.i2l, 1) := by decide +kernel
theorem d_X9_steps_7 : decode prog_11_method_66_code 7 = .ok (.lconst 1, 1) := by decide +kernel
theorem d_X9_steps_8 : decode prog_11_method_66_code 8 = .ok (.ldc2_w 262, 3) := by decide +kernel
theorem d_X9_steps_11 : decode prog_11_method_66_code 11 = .ok (.invokestatic 140, 3) := by decide +kernel
theorem d_X9_steps_14 : decode prog_11_method_66_code 14 = .ok (.ifCond .ne 9, 3) := by decide +kernel
theorem d_X9_steps_23 : decode prog_11_method_66_code 23 = .ok (.aload_n 0, 1) := by decide +kernel
theorem k_1864 : Cond.code ⟨"PinchedBillModel", "keeps", "()V"⟩ prog_11_method_61_code 2 none ∈ gd_tbl := gd_in 1864 (by decide +kernel) (by decide +kernel)
theorem k_1861 : Cond.methodLink "PinchedBillModel" 329 ⟨"PinchedBillModel", "keeps", "()V"⟩ ∈ gd_tbl := gd_in 1861 (by decide +kernel) (by decide +kernel)
theorem k_1863 : Cond.instanceMethod ⟨"PinchedBillModel", "keeps", "()V"⟩ ∈ gd_tbl := gd_in 1863 (by decide +kernel) (by decide +kernel)
theorem k_80 : Cond.selects "PinchedBillModel" ⟨"PinchedBillModel", "keeps", "()V"⟩ ⟨"PinchedBillModel", "keeps", "()V"⟩ ∈ gd_tbl := gd_in 80 (by decide +kernel) (by decide +kernel)
theorem kV_PinchedBillModel_329 : kV "PinchedBillModel" 329 ⟨"PinchedBillModel", "keeps", "()V"⟩ prog_11_method_61_code 2 none 0 := ⟨k_1861, k_1863, k_80, k_122, k_1864, by decide, by decide, by decide +kernel⟩
theorem d_X9_steps_24 : decode prog_11_method_66_code 24 = .ok (.invokevirtual 329, 3) := by decide +kernel
theorem d_X9_steps_27 : decode prog_11_method_66_code 27 = .ok (.iconst 0, 1) := by decide +kernel
theorem d_X9_steps_28 : decode prog_11_method_66_code 28 = .ok (.istore_n 2, 1) := by decide +kernel
theorem d_X9_steps_29 : decode prog_11_method_66_code 29 = .ok (.iload_n 2, 1) := by decide +kernel
theorem d_X9_steps_30 : decode prog_11_method_66_code 30 = .ok (.iload_n 1, 1) := by decide +kernel
theorem d_X9_steps_31 : decode prog_11_method_66_code 31 = .ok (.if_icmp .ge 16, 3) := by decide +kernel
theorem d_X9_steps_47 : decode prog_11_method_66_code 47 = .ok (.iload_n 2, 1) := by decide +kernel
theorem d_X9_steps_48 : decode prog_11_method_66_code 48 = .ok (.ireturn, 1) := by decide +kernel
theorem d_X9_steps_34 : decode prog_11_method_66_code 34 = .ok (.aload_n 0, 1) := by decide +kernel
theorem k_1868 : Cond.code ⟨"PinchedBillModel", "goesStep", "()Z"⟩ prog_11_method_54_code 2 (some .boolean) ∈ gd_tbl := gd_in 1868 (by decide +kernel) (by decide +kernel)
theorem k_1865 : Cond.methodLink "PinchedBillModel" 332 ⟨"PinchedBillModel", "goesStep", "()Z"⟩ ∈ gd_tbl := gd_in 1865 (by decide +kernel) (by decide +kernel)
theorem k_1867 : Cond.instanceMethod ⟨"PinchedBillModel", "goesStep", "()Z"⟩ ∈ gd_tbl := gd_in 1867 (by decide +kernel) (by decide +kernel)
theorem k_81 : Cond.selects "PinchedBillModel" ⟨"PinchedBillModel", "goesStep", "()Z"⟩ ⟨"PinchedBillModel", "goesStep", "()Z"⟩ ∈ gd_tbl := gd_in 81 (by decide +kernel) (by decide +kernel)
theorem kV_PinchedBillModel_332 : kV "PinchedBillModel" 332 ⟨"PinchedBillModel", "goesStep", "()Z"⟩ prog_11_method_54_code 2 (some .boolean) 0 := ⟨k_1865, k_1867, k_81, k_122, k_1868, by decide, by decide, by decide +kernel⟩
theorem d_X9_steps_35 : decode prog_11_method_66_code 35 = .ok (.invokevirtual 332, 3) := by decide +kernel
theorem d_X9_steps_38 : decode prog_11_method_66_code 38 = .ok (.ifCond .eq 9, 3) := by decide +kernel
theorem d_X9_steps_17 : decode prog_11_method_66_code 17 = .ok (.aload_n 0, 1) := by decide +kernel
theorem d_X9_steps_18 : decode prog_11_method_66_code 18 = .ok (.iconst 1, 1) := by decide +kernel
theorem d_X9_steps_19 : decode prog_11_method_66_code 19 = .ok (.invokevirtual 242, 3) := by decide +kernel
theorem d_X9_steps_22 : decode prog_11_method_66_code 22 = .ok (.ireturn, 1) := by decide +kernel
theorem d_X9_draft_0 : decode prog_11_method_67_code 0 = .ok (.aload_n 0, 1) := by decide +kernel
theorem d_X9_draft_1 : decode prog_11_method_67_code 1 = .ok (.iconst 0, 1) := by decide +kernel
theorem d_X9_draft_2 : decode prog_11_method_67_code 2 = .ok (.putfield 79, 3) := by decide +kernel
theorem d_X9_draft_5 : decode prog_11_method_67_code 5 = .ok (.aload_n 0, 1) := by decide +kernel
theorem d_X9_draft_6 : decode prog_11_method_67_code 6 = .ok (.iload_n 1, 1) := by decide +kernel
theorem d_X9_draft_7 : decode prog_11_method_67_code 7 = .ok (.i2l, 1) := by decide +kernel
theorem d_X9_draft_8 : decode prog_11_method_67_code 8 = .ok (.invokevirtual 326, 3) := by decide +kernel
theorem d_X9_draft_11 : decode prog_11_method_67_code 11 = .ok (.ifCond .ne 5, 3) := by decide +kernel
theorem d_X9_draft_16 : decode prog_11_method_67_code 16 = .ok (.aload_n 0, 1) := by decide +kernel
theorem d_X9_draft_17 : decode prog_11_method_67_code 17 = .ok (.invokevirtual 329, 3) := by decide +kernel
theorem d_X9_draft_20 : decode prog_11_method_67_code 20 = .ok (.aload_n 0, 1) := by decide +kernel
theorem d_X9_draft_21 : decode prog_11_method_67_code 21 = .ok (.getfield 9, 3) := by decide +kernel
theorem d_X9_draft_24 : decode prog_11_method_67_code 24 = .ok (.bipush 6, 2) := by decide +kernel
theorem d_X9_draft_26 : decode prog_11_method_67_code 26 = .ok (.iaload, 1) := by decide +kernel
theorem d_X9_draft_27 : decode prog_11_method_67_code 27 = .ok (.istore_n 2, 1) := by decide +kernel
theorem d_X9_draft_28 : decode prog_11_method_67_code 28 = .ok (.aload_n 0, 1) := by decide +kernel
theorem d_X9_draft_29 : decode prog_11_method_67_code 29 = .ok (.iload_n 1, 1) := by decide +kernel
theorem k_1876 : Cond.code ⟨"PinchedBillModel", "drafts", "(I)V"⟩ prog_11_method_65_code 2 none ∈ gd_tbl := gd_in 1876 (by decide +kernel) (by decide +kernel)
theorem k_1873 : Cond.methodLink "PinchedBillModel" 336 ⟨"PinchedBillModel", "drafts", "(I)V"⟩ ∈ gd_tbl := gd_in 1873 (by decide +kernel) (by decide +kernel)
theorem k_1875 : Cond.instanceMethod ⟨"PinchedBillModel", "drafts", "(I)V"⟩ ∈ gd_tbl := gd_in 1875 (by decide +kernel) (by decide +kernel)
theorem k_82 : Cond.selects "PinchedBillModel" ⟨"PinchedBillModel", "drafts", "(I)V"⟩ ⟨"PinchedBillModel", "drafts", "(I)V"⟩ ∈ gd_tbl := gd_in 82 (by decide +kernel) (by decide +kernel)
theorem kV_PinchedBillModel_336 : kV "PinchedBillModel" 336 ⟨"PinchedBillModel", "drafts", "(I)V"⟩ prog_11_method_65_code 2 none 1 := ⟨k_1873, k_1875, k_82, k_122, k_1876, by decide, by decide, by decide +kernel⟩
theorem d_X9_draft_30 : decode prog_11_method_67_code 30 = .ok (.invokevirtual 336, 3) := by decide +kernel
theorem d_X9_draft_33 : decode prog_11_method_67_code 33 = .ok (.iload_n 2, 1) := by decide +kernel
theorem d_X9_draft_34 : decode prog_11_method_67_code 34 = .ok (.ireturn, 1) := by decide +kernel
theorem d_X9_draft_14 : decode prog_11_method_67_code 14 = .ok (.iconst (-1), 1) := by decide +kernel
theorem d_X9_draft_15 : decode prog_11_method_67_code 15 = .ok (.ireturn, 1) := by decide +kernel
theorem d_X9_undo_0 : decode prog_11_method_71_code 0 = .ok (.aload_n 0, 1) := by decide +kernel
theorem d_X9_undo_1 : decode prog_11_method_71_code 1 = .ok (.iconst 0, 1) := by decide +kernel
theorem d_X9_undo_2 : decode prog_11_method_71_code 2 = .ok (.putfield 79, 3) := by decide +kernel
theorem d_X9_undo_5 : decode prog_11_method_71_code 5 = .ok (.iload_n 1, 1) := by decide +kernel
theorem d_X9_undo_6 : decode prog_11_method_71_code 6 = .ok (.i2l, 1) := by decide +kernel
theorem d_X9_undo_7 : decode prog_11_method_71_code 7 = .ok (.lconst 1, 1) := by decide +kernel
theorem d_X9_undo_8 : decode prog_11_method_71_code 8 = .ok (.ldc2_w 350, 3) := by decide +kernel
theorem d_X9_undo_11 : decode prog_11_method_71_code 11 = .ok (.invokestatic 140, 3) := by decide +kernel
theorem d_X9_undo_14 : decode prog_11_method_71_code 14 = .ok (.ifCond .eq 13, 3) := by decide +kernel
theorem d_X9_undo_17 : decode prog_11_method_71_code 17 = .ok (.iload_n 1, 1) := by decide +kernel
theorem d_X9_undo_18 : decode prog_11_method_71_code 18 = .ok (.aload_n 0, 1) := by decide +kernel
theorem d_X9_undo_19 : decode prog_11_method_71_code 19 = .ok (.getfield 9, 3) := by decide +kernel
theorem d_X9_undo_22 : decode prog_11_method_71_code 22 = .ok (.iconst 5, 1) := by decide +kernel
theorem d_X9_undo_23 : decode prog_11_method_71_code 23 = .ok (.iaload, 1) := by decide +kernel
theorem d_X9_undo_24 : decode prog_11_method_71_code 24 = .ok (.if_icmp .le 9, 3) := by decide +kernel
theorem d_X9_undo_27 : decode prog_11_method_71_code 27 = .ok (.aload_n 0, 1) := by decide +kernel
theorem d_X9_undo_28 : decode prog_11_method_71_code 28 = .ok (.iconst 1, 1) := by decide +kernel
theorem d_X9_undo_29 : decode prog_11_method_71_code 29 = .ok (.invokevirtual 242, 3) := by decide +kernel
theorem d_X9_undo_32 : decode prog_11_method_71_code 32 = .ok (.ireturn, 1) := by decide +kernel
theorem d_X9_isTray_0 : decode prog_11_method_131_code 0 = .ok (.iload_n 0, 1) := by decide +kernel
theorem d_X9_isTray_1 : decode prog_11_method_131_code 1 = .ok (.i2l, 1) := by decide +kernel
theorem d_X9_isTray_2 : decode prog_11_method_131_code 2 = .ok (.lconst 0, 1) := by decide +kernel
theorem k_1912 : Cond.constantLong "PinchedBillModel" 368 3 ∈ gd_tbl := gd_in 1912 (by decide +kernel) (by decide +kernel)
theorem d_X9_isTray_3 : decode prog_11_method_131_code 3 = .ok (.ldc2_w 368, 3) := by decide +kernel
theorem d_X9_isTray_6 : decode prog_11_method_131_code 6 = .ok (.invokestatic 140, 3) := by decide +kernel
theorem d_X9_isTray_9 : decode prog_11_method_131_code 9 = .ok (.ireturn, 1) := by decide +kernel
theorem d_X9_trayFault_0 : decode prog_11_method_72_code 0 = .ok (.iload_n 1, 1) := by decide +kernel
theorem k_1911 : Cond.code ⟨"PinchedBillModel", "isTray", "(I)Z"⟩ prog_11_method_131_code 1 (some .boolean) ∈ gd_tbl := gd_in 1911 (by decide +kernel) (by decide +kernel)
theorem k_1909 : Cond.methodLink "PinchedBillModel" 352 ⟨"PinchedBillModel", "isTray", "(I)Z"⟩ ∈ gd_tbl := gd_in 1909 (by decide +kernel) (by decide +kernel)
theorem k_1910 : Cond.static ⟨"PinchedBillModel", "isTray", "(I)Z"⟩ ∈ gd_tbl := gd_in 1910 (by decide +kernel) (by decide +kernel)
theorem kS_PinchedBillModel_352 : kS "PinchedBillModel" 352 ⟨"PinchedBillModel", "isTray", "(I)Z"⟩ prog_11_method_131_code 1 (some .boolean) 1 := ⟨k_1909, k_1910, k_122, k_1911, by decide, by decide, by decide +kernel⟩
theorem d_X9_trayFault_1 : decode prog_11_method_72_code 1 = .ok (.invokestatic 352, 3) := by decide +kernel
theorem d_X9_trayFault_4 : decode prog_11_method_72_code 4 = .ok (.ifCond .ne 7, 3) := by decide +kernel
theorem d_X9_trayFault_11 : decode prog_11_method_72_code 11 = .ok (.aload_n 0, 1) := by decide +kernel
theorem d_X9_trayFault_12 : decode prog_11_method_72_code 12 = .ok (.getfield 66, 3) := by decide +kernel
theorem d_X9_trayFault_15 : decode prog_11_method_72_code 15 = .ok (.iload_n 1, 1) := by decide +kernel
theorem d_X9_trayFault_16 : decode prog_11_method_72_code 16 = .ok (.iaload, 1) := by decide +kernel
theorem d_X9_trayFault_17 : decode prog_11_method_72_code 17 = .ok (.iconst (-1), 1) := by decide +kernel
theorem d_X9_trayFault_18 : decode prog_11_method_72_code 18 = .ok (.if_icmp .ne 7, 3) := by decide +kernel
theorem d_X9_trayFault_21 : decode prog_11_method_72_code 21 = .ok (.iconst 2, 1) := by decide +kernel
theorem d_X9_trayFault_22 : decode prog_11_method_72_code 22 = .ok (.goto 4, 3) := by decide +kernel
theorem d_X9_trayFault_26 : decode prog_11_method_72_code 26 = .ok (.ireturn, 1) := by decide +kernel
theorem d_X9_trayFault_7 : decode prog_11_method_72_code 7 = .ok (.iconst 1, 1) := by decide +kernel
theorem d_X9_trayFault_8 : decode prog_11_method_72_code 8 = .ok (.goto 18, 3) := by decide +kernel
theorem d_X9_seenFault_0 : decode prog_11_method_114_code 0 = .ok (.aload_n 0, 1) := by decide +kernel
theorem d_X9_seenFault_1 : decode prog_11_method_114_code 1 = .ok (.iload_n 1, 1) := by decide +kernel
theorem k_1908 : Cond.code ⟨"PinchedBillModel", "trayFault", "(I)I"⟩ prog_11_method_72_code 2 (some .int) ∈ gd_tbl := gd_in 1908 (by decide +kernel) (by decide +kernel)
theorem k_1905 : Cond.methodLink "PinchedBillModel" 365 ⟨"PinchedBillModel", "trayFault", "(I)I"⟩ ∈ gd_tbl := gd_in 1905 (by decide +kernel) (by decide +kernel)
theorem k_1907 : Cond.instanceMethod ⟨"PinchedBillModel", "trayFault", "(I)I"⟩ ∈ gd_tbl := gd_in 1907 (by decide +kernel) (by decide +kernel)
theorem k_85 : Cond.selects "PinchedBillModel" ⟨"PinchedBillModel", "trayFault", "(I)I"⟩ ⟨"PinchedBillModel", "trayFault", "(I)I"⟩ ∈ gd_tbl := gd_in 85 (by decide +kernel) (by decide +kernel)
theorem kV_PinchedBillModel_365 : kV "PinchedBillModel" 365 ⟨"PinchedBillModel", "trayFault", "(I)I"⟩ prog_11_method_72_code 2 (some .int) 1 := ⟨k_1905, k_1907, k_85, k_122, k_1908, by decide, by decide, by decide +kernel⟩
theorem d_X9_seenFault_2 : decode prog_11_method_114_code 2 = .ok (.invokevirtual 365, 3) := by decide +kernel
theorem d_X9_seenFault_5 : decode prog_11_method_114_code 5 = .ok (.istore_n 2, 1) := by decide +kernel
theorem d_X9_seenFault_6 : decode prog_11_method_114_code 6 = .ok (.iload_n 2, 1) := by decide +kernel
theorem d_X9_seenFault_7 : decode prog_11_method_114_code 7 = .ok (.ifCond .eq 5, 3) := by decide +kernel
theorem d_X9_seenFault_10 : decode prog_11_method_114_code 10 = .ok (.iload_n 2, 1) := by decide +kernel
theorem d_X9_seenFault_11 : decode prog_11_method_114_code 11 = .ok (.ireturn, 1) := by decide +kernel
theorem d_X9_judge_0 : decode prog_11_method_75_code 0 = .ok (.aload_n 0, 1) := by decide +kernel
theorem d_X9_judge_1 : decode prog_11_method_75_code 1 = .ok (.aload_n 0, 1) := by decide +kernel
theorem d_X9_judge_2 : decode prog_11_method_75_code 2 = .ok (.iload_n 1, 1) := by decide +kernel
theorem d_X9_judge_3 : decode prog_11_method_75_code 3 = .ok (.invokevirtual 365, 3) := by decide +kernel
theorem d_X9_judge_6 : decode prog_11_method_75_code 6 = .ok (.putfield 79, 3) := by decide +kernel
theorem d_X9_judge_9 : decode prog_11_method_75_code 9 = .ok (.aload_n 0, 1) := by decide +kernel
theorem d_X9_judge_10 : decode prog_11_method_75_code 10 = .ok (.getfield 79, 3) := by decide +kernel
theorem d_X9_judge_13 : decode prog_11_method_75_code 13 = .ok (.ifCond .ne 20, 3) := by decide +kernel
theorem d_X9_judge_33 : decode prog_11_method_75_code 33 = .ok (.aload_n 0, 1) := by decide +kernel
theorem d_X9_judge_34 : decode prog_11_method_75_code 34 = .ok (.getfield 79, 3) := by decide +kernel
theorem d_X9_judge_37 : decode prog_11_method_75_code 37 = .ok (.ifCond .le 5, 3) := by decide +kernel
theorem d_X9_judge_40 : decode prog_11_method_75_code 40 = .ok (.iconst 0, 1) := by decide +kernel
theorem d_X9_judge_41 : decode prog_11_method_75_code 41 = .ok (.ireturn, 1) := by decide +kernel
theorem d_X9_perform_0 : decode prog_11_method_76_code 0 = .ok (.aload_n 0, 1) := by decide +kernel
theorem d_X9_perform_1 : decode prog_11_method_76_code 1 = .ok (.aload_n 0, 1) := by decide +kernel
theorem d_X9_perform_2 : decode prog_11_method_76_code 2 = .ok (.iload_n 1, 1) := by decide +kernel
theorem d_X9_perform_3 : decode prog_11_method_76_code 3 = .ok (.invokevirtual 365, 3) := by decide +kernel
theorem d_X9_perform_6 : decode prog_11_method_76_code 6 = .ok (.putfield 79, 3) := by decide +kernel
theorem d_X9_perform_9 : decode prog_11_method_76_code 9 = .ok (.aload_n 0, 1) := by decide +kernel
theorem d_X9_perform_10 : decode prog_11_method_76_code 10 = .ok (.getfield 79, 3) := by decide +kernel
theorem d_X9_perform_13 : decode prog_11_method_76_code 13 = .ok (.ifCond .le 5, 3) := by decide +kernel
theorem d_X9_perform_16 : decode prog_11_method_76_code 16 = .ok (.iconst 0, 1) := by decide +kernel
theorem d_X9_perform_17 : decode prog_11_method_76_code 17 = .ok (.ireturn, 1) := by decide +kernel
theorem d_X9_seen_0 : decode prog_11_method_117_code 0 = .ok (.aload_n 0, 1) := by decide +kernel
theorem d_X9_seen_1 : decode prog_11_method_117_code 1 = .ok (.aload_n 0, 1) := by decide +kernel
theorem d_X9_seen_2 : decode prog_11_method_117_code 2 = .ok (.iload_n 1, 1) := by decide +kernel
theorem k_2097 : Cond.code ⟨"PinchedBillModel", "seenFault", "(I)I"⟩ prog_11_method_114_code 5 (some .int) ∈ gd_tbl := gd_in 2097 (by decide +kernel) (by decide +kernel)
theorem k_2094 : Cond.methodLink "PinchedBillModel" 469 ⟨"PinchedBillModel", "seenFault", "(I)I"⟩ ∈ gd_tbl := gd_in 2094 (by decide +kernel) (by decide +kernel)
theorem k_2096 : Cond.instanceMethod ⟨"PinchedBillModel", "seenFault", "(I)I"⟩ ∈ gd_tbl := gd_in 2096 (by decide +kernel) (by decide +kernel)
theorem k_106 : Cond.selects "PinchedBillModel" ⟨"PinchedBillModel", "seenFault", "(I)I"⟩ ⟨"PinchedBillModel", "seenFault", "(I)I"⟩ ∈ gd_tbl := gd_in 106 (by decide +kernel) (by decide +kernel)
theorem kV_PinchedBillModel_469 : kV "PinchedBillModel" 469 ⟨"PinchedBillModel", "seenFault", "(I)I"⟩ prog_11_method_114_code 5 (some .int) 1 := ⟨k_2094, k_2096, k_106, k_122, k_2097, by decide, by decide, by decide +kernel⟩
theorem d_X9_seen_3 : decode prog_11_method_117_code 3 = .ok (.invokevirtual 469, 3) := by decide +kernel
theorem d_X9_seen_6 : decode prog_11_method_117_code 6 = .ok (.putfield 79, 3) := by decide +kernel
theorem d_X9_seen_9 : decode prog_11_method_117_code 9 = .ok (.aload_n 0, 1) := by decide +kernel
theorem d_X9_seen_10 : decode prog_11_method_117_code 10 = .ok (.getfield 79, 3) := by decide +kernel
theorem d_X9_seen_13 : decode prog_11_method_117_code 13 = .ok (.ifCond .le 5, 3) := by decide +kernel
theorem d_X9_seen_16 : decode prog_11_method_117_code 16 = .ok (.iconst 0, 1) := by decide +kernel
theorem d_X9_seen_17 : decode prog_11_method_117_code 17 = .ok (.ireturn, 1) := by decide +kernel
theorem d_X9_seenAt_0 : decode prog_11_method_118_code 0 = .ok (.aload_n 0, 1) := by decide +kernel
theorem d_X9_seenAt_1 : decode prog_11_method_118_code 1 = .ok (.aload_n 0, 1) := by decide +kernel
theorem d_X9_seenAt_2 : decode prog_11_method_118_code 2 = .ok (.iload_n 1, 1) := by decide +kernel
theorem d_X9_seenAt_3 : decode prog_11_method_118_code 3 = .ok (.invokevirtual 469, 3) := by decide +kernel
theorem d_X9_seenAt_6 : decode prog_11_method_118_code 6 = .ok (.putfield 79, 3) := by decide +kernel
theorem d_X9_seenAt_9 : decode prog_11_method_118_code 9 = .ok (.aload_n 0, 1) := by decide +kernel
theorem d_X9_seenAt_10 : decode prog_11_method_118_code 10 = .ok (.getfield 79, 3) := by decide +kernel
theorem d_X9_seenAt_13 : decode prog_11_method_118_code 13 = .ok (.ifCond .ne 12, 3) := by decide +kernel
theorem d_X9_seenAt_25 : decode prog_11_method_118_code 25 = .ok (.aload_n 0, 1) := by decide +kernel
theorem d_X9_seenAt_26 : decode prog_11_method_118_code 26 = .ok (.getfield 79, 3) := by decide +kernel
theorem d_X9_seenAt_29 : decode prog_11_method_118_code 29 = .ok (.ifCond .le 5, 3) := by decide +kernel
theorem d_X9_seenAt_32 : decode prog_11_method_118_code 32 = .ok (.iconst 0, 1) := by decide +kernel
theorem d_X9_seenAt_33 : decode prog_11_method_118_code 33 = .ok (.ireturn, 1) := by decide +kernel
theorem d_X9_ask_0 : decode prog_11_method_120_code 0 = .ok (.aload_n 0, 1) := by decide +kernel
theorem d_X9_ask_1 : decode prog_11_method_120_code 1 = .ok (.aload_n 0, 1) := by decide +kernel
theorem d_X9_ask_2 : decode prog_11_method_120_code 2 = .ok (.iload_n 1, 1) := by decide +kernel
theorem d_X9_ask_3 : decode prog_11_method_120_code 3 = .ok (.invokevirtual 469, 3) := by decide +kernel
theorem d_X9_ask_6 : decode prog_11_method_120_code 6 = .ok (.putfield 79, 3) := by decide +kernel
theorem d_X9_ask_9 : decode prog_11_method_120_code 9 = .ok (.aload_n 0, 1) := by decide +kernel
theorem d_X9_ask_10 : decode prog_11_method_120_code 10 = .ok (.getfield 79, 3) := by decide +kernel
theorem d_X9_ask_13 : decode prog_11_method_120_code 13 = .ok (.ifCond .le 5, 3) := by decide +kernel
theorem d_X9_ask_16 : decode prog_11_method_120_code 16 = .ok (.iconst 0, 1) := by decide +kernel
theorem d_X9_ask_17 : decode prog_11_method_120_code 17 = .ok (.ireturn, 1) := by decide +kernel
theorem d_X9_write_0 : decode prog_11_method_134_code 0 = .ok (.aload_n 0, 1) := by decide +kernel
theorem d_X9_write_1 : decode prog_11_method_134_code 1 = .ok (.aload_n 0, 1) := by decide +kernel
theorem d_X9_write_2 : decode prog_11_method_134_code 2 = .ok (.iload_n 1, 1) := by decide +kernel
theorem d_X9_write_3 : decode prog_11_method_134_code 3 = .ok (.invokevirtual 365, 3) := by decide +kernel
theorem d_X9_write_6 : decode prog_11_method_134_code 6 = .ok (.putfield 79, 3) := by decide +kernel
theorem d_X9_write_9 : decode prog_11_method_134_code 9 = .ok (.aload_n 0, 1) := by decide +kernel
theorem d_X9_write_10 : decode prog_11_method_134_code 10 = .ok (.getfield 79, 3) := by decide +kernel
theorem d_X9_write_13 : decode prog_11_method_134_code 13 = .ok (.ifCond .le 5, 3) := by decide +kernel
theorem d_X9_write_16 : decode prog_11_method_134_code 16 = .ok (.lconst 0, 1) := by decide +kernel
theorem d_X9_write_17 : decode prog_11_method_134_code 17 = .ok (.lreturn, 1) := by decide +kernel
theorem d_X9_copy_0 : decode prog_11_method_135_code 0 = .ok (.aload_n 0, 1) := by decide +kernel
theorem d_X9_copy_1 : decode prog_11_method_135_code 1 = .ok (.aload_n 0, 1) := by decide +kernel
theorem d_X9_copy_2 : decode prog_11_method_135_code 2 = .ok (.iload_n 1, 1) := by decide +kernel
theorem d_X9_copy_3 : decode prog_11_method_135_code 3 = .ok (.invokevirtual 365, 3) := by decide +kernel
theorem d_X9_copy_6 : decode prog_11_method_135_code 6 = .ok (.putfield 79, 3) := by decide +kernel
theorem d_X9_copy_9 : decode prog_11_method_135_code 9 = .ok (.aload_n 0, 1) := by decide +kernel
theorem d_X9_copy_10 : decode prog_11_method_135_code 10 = .ok (.getfield 79, 3) := by decide +kernel
theorem d_X9_copy_13 : decode prog_11_method_135_code 13 = .ok (.ifCond .ne 17, 3) := by decide +kernel
theorem d_X9_copy_30 : decode prog_11_method_135_code 30 = .ok (.aload_n 0, 1) := by decide +kernel
theorem d_X9_copy_31 : decode prog_11_method_135_code 31 = .ok (.getfield 79, 3) := by decide +kernel
theorem d_X9_copy_34 : decode prog_11_method_135_code 34 = .ok (.ifCond .le 5, 3) := by decide +kernel
theorem d_X9_copy_37 : decode prog_11_method_135_code 37 = .ok (.iconst 0, 1) := by decide +kernel
theorem d_X9_copy_38 : decode prog_11_method_135_code 38 = .ok (.ireturn, 1) := by decide +kernel
theorem d_X9_restore_0 : decode prog_11_method_137_code 0 = .ok (.aload_n 0, 1) := by decide +kernel
theorem d_X9_restore_1 : decode prog_11_method_137_code 1 = .ok (.iload_n 1, 1) := by decide +kernel
theorem d_X9_restore_2 : decode prog_11_method_137_code 2 = .ok (.i2l, 1) := by decide +kernel
theorem d_X9_restore_3 : decode prog_11_method_137_code 3 = .ok (.lconst 0, 1) := by decide +kernel
theorem k_2178 : Cond.constantLong "PinchedBillModel" 509 2 ∈ gd_tbl := gd_in 2178 (by decide +kernel) (by decide +kernel)
theorem d_X9_restore_4 : decode prog_11_method_137_code 4 = .ok (.ldc2_w 509, 3) := by decide +kernel
theorem d_X9_restore_7 : decode prog_11_method_137_code 7 = .ok (.invokestatic 140, 3) := by decide +kernel
theorem d_X9_restore_10 : decode prog_11_method_137_code 10 = .ok (.ifCond .ne 7, 3) := by decide +kernel
theorem d_X9_restore_13 : decode prog_11_method_137_code 13 = .ok (.iconst 1, 1) := by decide +kernel
theorem d_X9_restore_14 : decode prog_11_method_137_code 14 = .ok (.goto 17, 3) := by decide +kernel
theorem d_X9_restore_31 : decode prog_11_method_137_code 31 = .ok (.putfield 79, 3) := by decide +kernel
theorem d_X9_restore_34 : decode prog_11_method_137_code 34 = .ok (.aload_n 0, 1) := by decide +kernel
theorem d_X9_restore_35 : decode prog_11_method_137_code 35 = .ok (.getfield 79, 3) := by decide +kernel
theorem d_X9_restore_38 : decode prog_11_method_137_code 38 = .ok (.ifCond .le 4, 3) := by decide +kernel
theorem d_X9_restore_41 : decode prog_11_method_137_code 41 = .ok (.return_, 1) := by decide +kernel
theorem d_X9_restore_17 : decode prog_11_method_137_code 17 = .ok (.aload_n 0, 1) := by decide +kernel
theorem d_X9_restore_18 : decode prog_11_method_137_code 18 = .ok (.getfield 19, 3) := by decide +kernel
theorem d_X9_restore_21 : decode prog_11_method_137_code 21 = .ok (.iload_n 1, 1) := by decide +kernel
theorem d_X9_restore_22 : decode prog_11_method_137_code 22 = .ok (.baload, 1) := by decide +kernel
theorem d_X9_restore_23 : decode prog_11_method_137_code 23 = .ok (.ifCond .ne 7, 3) := by decide +kernel
theorem d_X9_restore_26 : decode prog_11_method_137_code 26 = .ok (.iconst 2, 1) := by decide +kernel
theorem d_X9_restore_27 : decode prog_11_method_137_code 27 = .ok (.goto 4, 3) := by decide +kernel
theorem d_X9_image_0 : decode prog_11_method_136_code 0 = .ok (.aload_n 0, 1) := by decide +kernel
theorem d_X9_image_1 : decode prog_11_method_136_code 1 = .ok (.iload_n 1, 1) := by decide +kernel
theorem d_X9_image_2 : decode prog_11_method_136_code 2 = .ok (.i2l, 1) := by decide +kernel
theorem d_X9_image_3 : decode prog_11_method_136_code 3 = .ok (.lconst 0, 1) := by decide +kernel
theorem d_X9_image_4 : decode prog_11_method_136_code 4 = .ok (.ldc2_w 509, 3) := by decide +kernel
theorem d_X9_image_7 : decode prog_11_method_136_code 7 = .ok (.invokestatic 140, 3) := by decide +kernel
theorem d_X9_image_10 : decode prog_11_method_136_code 10 = .ok (.ifCond .eq 7, 3) := by decide +kernel
theorem d_X9_image_17 : decode prog_11_method_136_code 17 = .ok (.iconst 1, 1) := by decide +kernel
theorem d_X9_image_18 : decode prog_11_method_136_code 18 = .ok (.putfield 79, 3) := by decide +kernel
theorem d_X9_image_21 : decode prog_11_method_136_code 21 = .ok (.aload_n 0, 1) := by decide +kernel
theorem d_X9_image_22 : decode prog_11_method_136_code 22 = .ok (.getfield 79, 3) := by decide +kernel
theorem d_X9_image_25 : decode prog_11_method_136_code 25 = .ok (.ifCond .le 4, 3) := by decide +kernel
theorem d_X9_image_28 : decode prog_11_method_136_code 28 = .ok (.return_, 1) := by decide +kernel
theorem d_X9_image_13 : decode prog_11_method_136_code 13 = .ok (.iconst 0, 1) := by decide +kernel
theorem d_X9_image_14 : decode prog_11_method_136_code 14 = .ok (.goto 4, 3) := by decide +kernel
theorem d_X9_image_29 : decode prog_11_method_136_code 29 = .ok (.aload_n 0, 1) := by decide +kernel
theorem d_X9_image_30 : decode prog_11_method_136_code 30 = .ok (.getfield 19, 3) := by decide +kernel
theorem d_X9_image_33 : decode prog_11_method_136_code 33 = .ok (.iload_n 1, 1) := by decide +kernel
theorem d_X9_image_34 : decode prog_11_method_136_code 34 = .ok (.iconst 1, 1) := by decide +kernel
theorem d_X9_image_35 : decode prog_11_method_136_code 35 = .ok (.bastore, 1) := by decide +kernel
theorem d_X9_image_36 : decode prog_11_method_136_code 36 = .ok (.iconst 0, 1) := by decide +kernel
theorem d_X9_image_37 : decode prog_11_method_136_code 37 = .ok (.istore_n 2, 1) := by decide +kernel
theorem d_X9_image_38 : decode prog_11_method_136_code 38 = .ok (.iload_n 2, 1) := by decide +kernel
theorem d_X9_image_39 : decode prog_11_method_136_code 39 = .ok (.sipush 1875, 3) := by decide +kernel
theorem d_X9_image_42 : decode prog_11_method_136_code 42 = .ok (.if_icmp .ge 27, 3) := by decide +kernel
theorem d_X9_image_69 : decode prog_11_method_136_code 69 = .ok (.return_, 1) := by decide +kernel
theorem d_X9_image_45 : decode prog_11_method_136_code 45 = .ok (.aload_n 0, 1) := by decide +kernel
theorem d_X9_image_46 : decode prog_11_method_136_code 46 = .ok (.getfield 16, 3) := by decide +kernel
theorem d_X9_image_49 : decode prog_11_method_136_code 49 = .ok (.sipush 1875, 3) := by decide +kernel
theorem d_X9_image_52 : decode prog_11_method_136_code 52 = .ok (.iload_n 1, 1) := by decide +kernel
theorem d_X9_image_53 : decode prog_11_method_136_code 53 = .ok (.imul, 1) := by decide +kernel
theorem d_X9_image_54 : decode prog_11_method_136_code 54 = .ok (.iload_n 2, 1) := by decide +kernel
theorem d_X9_image_55 : decode prog_11_method_136_code 55 = .ok (.iadd, 1) := by decide +kernel
theorem d_X9_image_56 : decode prog_11_method_136_code 56 = .ok (.aload_n 0, 1) := by decide +kernel
theorem d_X9_image_57 : decode prog_11_method_136_code 57 = .ok (.getfield 9, 3) := by decide +kernel
theorem d_X9_image_60 : decode prog_11_method_136_code 60 = .ok (.iload_n 2, 1) := by decide +kernel
theorem d_X9_image_61 : decode prog_11_method_136_code 61 = .ok (.iaload, 1) := by decide +kernel
theorem d_X9_image_62 : decode prog_11_method_136_code 62 = .ok (.iastore, 1) := by decide +kernel
theorem d_X9_image_63 : decode prog_11_method_136_code 63 = .ok (.iinc 2 1, 3) := by decide +kernel
theorem d_X9_image_66 : decode prog_11_method_136_code 66 = .ok (.goto (-28), 3) := by decide +kernel
theorem d_X9_tray_0 : decode prog_11_method_132_code 0 = .ok (.aload_n 0, 1) := by decide +kernel
theorem d_X9_tray_1 : decode prog_11_method_132_code 1 = .ok (.iload_n 1, 1) := by decide +kernel
theorem d_X9_tray_2 : decode prog_11_method_132_code 2 = .ok (.invokestatic 352, 3) := by decide +kernel
theorem d_X9_tray_5 : decode prog_11_method_132_code 5 = .ok (.ifCond .ne 7, 3) := by decide +kernel
theorem d_X9_tray_8 : decode prog_11_method_132_code 8 = .ok (.iconst 1, 1) := by decide +kernel
theorem d_X9_tray_9 : decode prog_11_method_132_code 9 = .ok (.goto 32, 3) := by decide +kernel
theorem d_X9_tray_41 : decode prog_11_method_132_code 41 = .ok (.putfield 79, 3) := by decide +kernel
theorem d_X9_tray_44 : decode prog_11_method_132_code 44 = .ok (.aload_n 0, 1) := by decide +kernel
theorem d_X9_tray_45 : decode prog_11_method_132_code 45 = .ok (.getfield 79, 3) := by decide +kernel
theorem d_X9_tray_48 : decode prog_11_method_132_code 48 = .ok (.ifCond .le 4, 3) := by decide +kernel
theorem d_X9_tray_51 : decode prog_11_method_132_code 51 = .ok (.return_, 1) := by decide +kernel
theorem d_X9_tray_12 : decode prog_11_method_132_code 12 = .ok (.iload_n 2, 1) := by decide +kernel
theorem d_X9_tray_13 : decode prog_11_method_132_code 13 = .ok (.i2l, 1) := by decide +kernel
theorem d_X9_tray_14 : decode prog_11_method_132_code 14 = .ok (.lconst 0, 1) := by decide +kernel
theorem d_X9_tray_15 : decode prog_11_method_132_code 15 = .ok (.ldc2_w 368, 3) := by decide +kernel
theorem d_X9_tray_18 : decode prog_11_method_132_code 18 = .ok (.invokestatic 140, 3) := by decide +kernel
theorem d_X9_tray_21 : decode prog_11_method_132_code 21 = .ok (.ifCond .eq 15, 3) := by decide +kernel
theorem d_X9_tray_24 : decode prog_11_method_132_code 24 = .ok (.iload_n 3, 1) := by decide +kernel
theorem d_X9_tray_25 : decode prog_11_method_132_code 25 = .ok (.i2l, 1) := by decide +kernel
theorem d_X9_tray_26 : decode prog_11_method_132_code 26 = .ok (.lconst 0, 1) := by decide +kernel
theorem k_1942 : Cond.constantLong "PinchedBillModel" 386 30 ∈ gd_tbl := gd_in 1942 (by decide +kernel) (by decide +kernel)
theorem d_X9_tray_27 : decode prog_11_method_132_code 27 = .ok (.ldc2_w 386, 3) := by decide +kernel
theorem d_X9_tray_30 : decode prog_11_method_132_code 30 = .ok (.invokestatic 140, 3) := by decide +kernel
theorem d_X9_tray_33 : decode prog_11_method_132_code 33 = .ok (.ifCond .ne 7, 3) := by decide +kernel
theorem d_X9_tray_36 : decode prog_11_method_132_code 36 = .ok (.iconst 2, 1) := by decide +kernel
theorem d_X9_tray_37 : decode prog_11_method_132_code 37 = .ok (.goto 4, 3) := by decide +kernel
theorem d_X9_tray_40 : decode prog_11_method_132_code 40 = .ok (.iconst 0, 1) := by decide +kernel
theorem d_X9_tray_52 : decode prog_11_method_132_code 52 = .ok (.aload_n 0, 1) := by decide +kernel
theorem d_X9_tray_53 : decode prog_11_method_132_code 53 = .ok (.getfield 66, 3) := by decide +kernel
theorem d_X9_tray_56 : decode prog_11_method_132_code 56 = .ok (.iload_n 1, 1) := by decide +kernel
theorem d_X9_tray_57 : decode prog_11_method_132_code 57 = .ok (.iload_n 2, 1) := by decide +kernel
theorem d_X9_tray_58 : decode prog_11_method_132_code 58 = .ok (.iastore, 1) := by decide +kernel
theorem d_X9_tray_59 : decode prog_11_method_132_code 59 = .ok (.aload_n 0, 1) := by decide +kernel
theorem d_X9_tray_60 : decode prog_11_method_132_code 60 = .ok (.getfield 69, 3) := by decide +kernel
theorem d_X9_tray_63 : decode prog_11_method_132_code 63 = .ok (.iload_n 1, 1) := by decide +kernel
theorem d_X9_tray_64 : decode prog_11_method_132_code 64 = .ok (.iload_n 3, 1) := by decide +kernel
theorem d_X9_tray_65 : decode prog_11_method_132_code 65 = .ok (.iastore, 1) := by decide +kernel
theorem d_X9_tray_66 : decode prog_11_method_132_code 66 = .ok (.iconst 0, 1) := by decide +kernel
theorem d_X9_tray_67 : decode prog_11_method_132_code 67 = .ok (.istore 4, 2) := by decide +kernel
theorem d_X9_tray_69 : decode prog_11_method_132_code 69 = .ok (.iload 4, 2) := by decide +kernel
theorem d_X9_tray_71 : decode prog_11_method_132_code 71 = .ok (.bipush 30, 2) := by decide +kernel
theorem d_X9_tray_73 : decode prog_11_method_132_code 73 = .ok (.if_icmp .ge 22, 3) := by decide +kernel
theorem d_X9_tray_95 : decode prog_11_method_132_code 95 = .ok (.return_, 1) := by decide +kernel
theorem d_X9_tray_76 : decode prog_11_method_132_code 76 = .ok (.aload_n 0, 1) := by decide +kernel
theorem d_X9_tray_77 : decode prog_11_method_132_code 77 = .ok (.getfield 72, 3) := by decide +kernel
theorem d_X9_tray_80 : decode prog_11_method_132_code 80 = .ok (.bipush 30, 2) := by decide +kernel
theorem d_X9_tray_82 : decode prog_11_method_132_code 82 = .ok (.iload_n 1, 1) := by decide +kernel
theorem d_X9_tray_83 : decode prog_11_method_132_code 83 = .ok (.imul, 1) := by decide +kernel
theorem d_X9_tray_84 : decode prog_11_method_132_code 84 = .ok (.iload 4, 2) := by decide +kernel
theorem d_X9_tray_86 : decode prog_11_method_132_code 86 = .ok (.iadd, 1) := by decide +kernel
theorem d_X9_tray_87 : decode prog_11_method_132_code 87 = .ok (.lconst 0, 1) := by decide +kernel
theorem d_X9_tray_88 : decode prog_11_method_132_code 88 = .ok (.lastore, 1) := by decide +kernel
theorem d_X9_tray_89 : decode prog_11_method_132_code 89 = .ok (.iinc 4 1, 3) := by decide +kernel
theorem d_X9_tray_92 : decode prog_11_method_132_code 92 = .ok (.goto (-23), 3) := by decide +kernel
theorem d_X9_count_0 : decode prog_11_method_138_code 0 = .ok (.aload_n 0, 1) := by decide +kernel
theorem d_X9_count_1 : decode prog_11_method_138_code 1 = .ok (.iconst 0, 1) := by decide +kernel
theorem d_X9_count_2 : decode prog_11_method_138_code 2 = .ok (.putfield 79, 3) := by decide +kernel
theorem d_X9_count_5 : decode prog_11_method_138_code 5 = .ok (.iload_n 1, 1) := by decide +kernel
theorem d_X9_count_6 : decode prog_11_method_138_code 6 = .ok (.tableswitch 101 0 7 #[46, 53, 60, 65, 73, 84, 89, 96], 46) := by decide +kernel
theorem d_X9_count_52 : decode prog_11_method_138_code 52 = .ok (.aload_n 0, 1) := by decide +kernel
theorem d_X9_count_53 : decode prog_11_method_138_code 53 = .ok (.getfield 9, 3) := by decide +kernel
theorem d_X9_count_56 : decode prog_11_method_138_code 56 = .ok (.iconst 0, 1) := by decide +kernel
theorem d_X9_count_57 : decode prog_11_method_138_code 57 = .ok (.iaload, 1) := by decide +kernel
theorem d_X9_count_58 : decode prog_11_method_138_code 58 = .ok (.ireturn, 1) := by decide +kernel
theorem d_X9_count_59 : decode prog_11_method_138_code 59 = .ok (.aload_n 0, 1) := by decide +kernel
theorem d_X9_count_60 : decode prog_11_method_138_code 60 = .ok (.getfield 9, 3) := by decide +kernel
theorem d_X9_count_63 : decode prog_11_method_138_code 63 = .ok (.iconst 1, 1) := by decide +kernel
theorem d_X9_count_64 : decode prog_11_method_138_code 64 = .ok (.iaload, 1) := by decide +kernel
theorem d_X9_count_65 : decode prog_11_method_138_code 65 = .ok (.ireturn, 1) := by decide +kernel
theorem d_X9_count_66 : decode prog_11_method_138_code 66 = .ok (.aload_n 0, 1) := by decide +kernel
theorem d_X9_count_67 : decode prog_11_method_138_code 67 = .ok (.invokevirtual 259, 3) := by decide +kernel
theorem d_X9_count_70 : decode prog_11_method_138_code 70 = .ok (.ireturn, 1) := by decide +kernel
theorem d_X9_count_71 : decode prog_11_method_138_code 71 = .ok (.aload_n 0, 1) := by decide +kernel
theorem d_X9_count_72 : decode prog_11_method_138_code 72 = .ok (.getfield 9, 3) := by decide +kernel
theorem d_X9_count_75 : decode prog_11_method_138_code 75 = .ok (.bipush 8, 2) := by decide +kernel
theorem d_X9_count_77 : decode prog_11_method_138_code 77 = .ok (.iaload, 1) := by decide +kernel
theorem d_X9_count_78 : decode prog_11_method_138_code 78 = .ok (.ireturn, 1) := by decide +kernel
theorem d_X9_count_79 : decode prog_11_method_138_code 79 = .ok (.aload_n 0, 1) := by decide +kernel
theorem d_X9_count_80 : decode prog_11_method_138_code 80 = .ok (.getfield 9, 3) := by decide +kernel
theorem d_X9_count_83 : decode prog_11_method_138_code 83 = .ok (.bipush 8, 2) := by decide +kernel
theorem d_X9_count_85 : decode prog_11_method_138_code 85 = .ok (.iaload, 1) := by decide +kernel
theorem d_X9_count_86 : decode prog_11_method_138_code 86 = .ok (.invokestatic 343, 3) := by decide +kernel
theorem d_X9_count_89 : decode prog_11_method_138_code 89 = .ok (.ireturn, 1) := by decide +kernel
theorem d_X9_count_90 : decode prog_11_method_138_code 90 = .ok (.aload_n 0, 1) := by decide +kernel
theorem k_2190 : Cond.code ⟨"PinchedBillModel", "manyBills", "()I"⟩ prog_11_method_41_code 1 (some .int) ∈ gd_tbl := gd_in 2190 (by decide +kernel) (by decide +kernel)
theorem k_2187 : Cond.methodLink "PinchedBillModel" 511 ⟨"PinchedBillModel", "manyBills", "()I"⟩ ∈ gd_tbl := gd_in 2187 (by decide +kernel) (by decide +kernel)
theorem k_2189 : Cond.instanceMethod ⟨"PinchedBillModel", "manyBills", "()I"⟩ ∈ gd_tbl := gd_in 2189 (by decide +kernel) (by decide +kernel)
theorem k_115 : Cond.selects "PinchedBillModel" ⟨"PinchedBillModel", "manyBills", "()I"⟩ ⟨"PinchedBillModel", "manyBills", "()I"⟩ ∈ gd_tbl := gd_in 115 (by decide +kernel) (by decide +kernel)
theorem kV_PinchedBillModel_511 : kV "PinchedBillModel" 511 ⟨"PinchedBillModel", "manyBills", "()I"⟩ prog_11_method_41_code 1 (some .int) 0 := ⟨k_2187, k_2189, k_115, k_122, k_2190, by decide, by decide, by decide +kernel⟩
theorem d_X9_count_91 : decode prog_11_method_138_code 91 = .ok (.invokevirtual 511, 3) := by decide +kernel
theorem d_X9_count_94 : decode prog_11_method_138_code 94 = .ok (.ireturn, 1) := by decide +kernel
theorem d_X9_count_95 : decode prog_11_method_138_code 95 = .ok (.aload_n 0, 1) := by decide +kernel
theorem d_X9_count_96 : decode prog_11_method_138_code 96 = .ok (.getfield 9, 3) := by decide +kernel
theorem d_X9_count_99 : decode prog_11_method_138_code 99 = .ok (.iconst 5, 1) := by decide +kernel
theorem d_X9_count_100 : decode prog_11_method_138_code 100 = .ok (.iaload, 1) := by decide +kernel
theorem d_X9_count_101 : decode prog_11_method_138_code 101 = .ok (.ireturn, 1) := by decide +kernel
theorem d_X9_count_102 : decode prog_11_method_138_code 102 = .ok (.aload_n 0, 1) := by decide +kernel
theorem k_1551 : Cond.fieldLink "PinchedBillModel" 82 "PinchedBillModel" "taped" "I" ∈ gd_tbl := gd_in 1551 (by decide +kernel) (by decide +kernel)
theorem d_X9_count_103 : decode prog_11_method_138_code 103 = .ok (.getfield 82, 3) := by decide +kernel
theorem d_X9_count_106 : decode prog_11_method_138_code 106 = .ok (.ireturn, 1) := by decide +kernel
theorem d_X9_count_107 : decode prog_11_method_138_code 107 = .ok (.iconst (-1), 1) := by decide +kernel
theorem d_X9_count_108 : decode prog_11_method_138_code 108 = .ok (.ireturn, 1) := by decide +kernel
theorem d_X9_feed_0 : decode prog_11_method_7_code 0 = .ok (.aload_n 0, 1) := by decide +kernel
theorem d_X9_feed_1 : decode prog_11_method_7_code 1 = .ok (.iconst 0, 1) := by decide +kernel
theorem d_X9_feed_2 : decode prog_11_method_7_code 2 = .ok (.putfield 79, 3) := by decide +kernel
theorem d_X9_feed_5 : decode prog_11_method_7_code 5 = .ok (.aload_n 0, 1) := by decide +kernel
theorem d_X9_feed_6 : decode prog_11_method_7_code 6 = .ok (.getfield 82, 3) := by decide +kernel
theorem d_X9_feed_9 : decode prog_11_method_7_code 9 = .ok (.bipush 20, 2) := by decide +kernel
theorem d_X9_feed_11 : decode prog_11_method_7_code 11 = .ok (.iadd, 1) := by decide +kernel
theorem d_X9_feed_12 : decode prog_11_method_7_code 12 = .ok (.sipush 900, 3) := by decide +kernel
theorem d_X9_feed_15 : decode prog_11_method_7_code 15 = .ok (.if_icmp .le 5, 3) := by decide +kernel
theorem d_X9_feed_20 : decode prog_11_method_7_code 20 = .ok (.iconst 0, 1) := by decide +kernel
theorem d_X9_feed_21 : decode prog_11_method_7_code 21 = .ok (.istore 6, 2) := by decide +kernel
theorem d_X9_feed_23 : decode prog_11_method_7_code 23 = .ok (.iload 6, 2) := by decide +kernel
theorem d_X9_feed_25 : decode prog_11_method_7_code 25 = .ok (.bipush 20, 2) := by decide +kernel
theorem d_X9_feed_27 : decode prog_11_method_7_code 27 = .ok (.if_icmp .ge 93, 3) := by decide +kernel
theorem d_X9_feed_30 : decode prog_11_method_7_code 30 = .ok (.iload 6, 2) := by decide +kernel
theorem d_X9_feed_32 : decode prog_11_method_7_code 32 = .ok (.iconst 4, 1) := by decide +kernel
theorem d_X9_feed_33 : decode prog_11_method_7_code 33 = .ok (.if_icmp .ge 7, 3) := by decide +kernel
theorem d_X9_feed_36 : decode prog_11_method_7_code 36 = .ok (.iload_n 1, 1) := by decide +kernel
theorem d_X9_feed_37 : decode prog_11_method_7_code 37 = .ok (.goto 39, 3) := by decide +kernel
theorem d_X9_feed_76 : decode prog_11_method_7_code 76 = .ok (.istore 7, 2) := by decide +kernel
theorem d_X9_feed_78 : decode prog_11_method_7_code 78 = .ok (.aload_n 0, 1) := by decide +kernel
theorem d_X9_feed_79 : decode prog_11_method_7_code 79 = .ok (.getfield 23, 3) := by decide +kernel
theorem d_X9_feed_82 : decode prog_11_method_7_code 82 = .ok (.aload_n 0, 1) := by decide +kernel
theorem d_X9_feed_83 : decode prog_11_method_7_code 83 = .ok (.getfield 82, 3) := by decide +kernel
theorem d_X9_feed_86 : decode prog_11_method_7_code 86 = .ok (.iload 7, 2) := by decide +kernel
theorem d_X9_feed_88 : decode prog_11_method_7_code 88 = .ok (.bipush 24, 2) := by decide +kernel
theorem d_X9_feed_90 : decode prog_11_method_7_code 90 = .ok (.bipush 8, 2) := by decide +kernel
theorem d_X9_feed_92 : decode prog_11_method_7_code 92 = .ok (.iload 6, 2) := by decide +kernel
theorem d_X9_feed_94 : decode prog_11_method_7_code 94 = .ok (.iconst 3, 1) := by decide +kernel
theorem d_X9_feed_95 : decode prog_11_method_7_code 95 = .ok (.iand, 1) := by decide +kernel
theorem d_X9_feed_96 : decode prog_11_method_7_code 96 = .ok (.imul, 1) := by decide +kernel
theorem d_X9_feed_97 : decode prog_11_method_7_code 97 = .ok (.isub, 1) := by decide +kernel
theorem d_X9_feed_98 : decode prog_11_method_7_code 98 = .ok (.iushr, 1) := by decide +kernel
theorem d_X9_feed_99 : decode prog_11_method_7_code 99 = .ok (.sipush 255, 3) := by decide +kernel
theorem d_X9_feed_102 : decode prog_11_method_7_code 102 = .ok (.iand, 1) := by decide +kernel
theorem d_X9_feed_103 : decode prog_11_method_7_code 103 = .ok (.iastore, 1) := by decide +kernel
theorem d_X9_feed_104 : decode prog_11_method_7_code 104 = .ok (.aload_n 0, 1) := by decide +kernel
theorem d_X9_feed_105 : decode prog_11_method_7_code 105 = .ok (.dup, 1) := by decide +kernel
theorem d_X9_feed_106 : decode prog_11_method_7_code 106 = .ok (.getfield 82, 3) := by decide +kernel
theorem d_X9_feed_109 : decode prog_11_method_7_code 109 = .ok (.iconst 1, 1) := by decide +kernel
theorem d_X9_feed_110 : decode prog_11_method_7_code 110 = .ok (.iadd, 1) := by decide +kernel
theorem d_X9_feed_111 : decode prog_11_method_7_code 111 = .ok (.putfield 82, 3) := by decide +kernel
theorem d_X9_feed_114 : decode prog_11_method_7_code 114 = .ok (.iinc 6 1, 3) := by decide +kernel
theorem d_X9_feed_117 : decode prog_11_method_7_code 117 = .ok (.goto (-94), 3) := by decide +kernel
theorem d_X9_feed_40 : decode prog_11_method_7_code 40 = .ok (.iload 6, 2) := by decide +kernel
theorem d_X9_feed_42 : decode prog_11_method_7_code 42 = .ok (.bipush 8, 2) := by decide +kernel
theorem d_X9_feed_44 : decode prog_11_method_7_code 44 = .ok (.if_icmp .ge 7, 3) := by decide +kernel
theorem d_X9_feed_47 : decode prog_11_method_7_code 47 = .ok (.iload_n 2, 1) := by decide +kernel
theorem d_X9_feed_48 : decode prog_11_method_7_code 48 = .ok (.goto 28, 3) := by decide +kernel
theorem d_X9_feed_51 : decode prog_11_method_7_code 51 = .ok (.iload 6, 2) := by decide +kernel
theorem d_X9_feed_53 : decode prog_11_method_7_code 53 = .ok (.bipush 12, 2) := by decide +kernel
theorem d_X9_feed_55 : decode prog_11_method_7_code 55 = .ok (.if_icmp .ge 7, 3) := by decide +kernel
theorem d_X9_feed_58 : decode prog_11_method_7_code 58 = .ok (.iload_n 3, 1) := by decide +kernel
theorem d_X9_feed_59 : decode prog_11_method_7_code 59 = .ok (.goto 17, 3) := by decide +kernel
theorem d_X9_feed_62 : decode prog_11_method_7_code 62 = .ok (.iload 6, 2) := by decide +kernel
theorem d_X9_feed_64 : decode prog_11_method_7_code 64 = .ok (.bipush 16, 2) := by decide +kernel
theorem d_X9_feed_66 : decode prog_11_method_7_code 66 = .ok (.if_icmp .ge 8, 3) := by decide +kernel
theorem d_X9_feed_69 : decode prog_11_method_7_code 69 = .ok (.iload 4, 2) := by decide +kernel
theorem d_X9_feed_71 : decode prog_11_method_7_code 71 = .ok (.goto 5, 3) := by decide +kernel
theorem d_X9_feed_74 : decode prog_11_method_7_code 74 = .ok (.iload 5, 2) := by decide +kernel
theorem d_X9_feed_120 : decode prog_11_method_7_code 120 = .ok (.aload_n 0, 1) := by decide +kernel
theorem d_X9_feed_121 : decode prog_11_method_7_code 121 = .ok (.getfield 82, 3) := by decide +kernel
theorem d_X9_feed_124 : decode prog_11_method_7_code 124 = .ok (.ireturn, 1) := by decide +kernel
theorem d_X9_house_0 : decode prog_11_method_35_code 0 = .ok (.aload_n 0, 1) := by decide +kernel
theorem d_X9_house_1 : decode prog_11_method_35_code 1 = .ok (.iconst 0, 1) := by decide +kernel
theorem d_X9_house_2 : decode prog_11_method_35_code 2 = .ok (.putfield 79, 3) := by decide +kernel
theorem d_X9_house_5 : decode prog_11_method_35_code 5 = .ok (.iload_n 1, 1) := by decide +kernel
theorem d_X9_house_6 : decode prog_11_method_35_code 6 = .ok (.i2l, 1) := by decide +kernel
theorem d_X9_house_7 : decode prog_11_method_35_code 7 = .ok (.lconst 0, 1) := by decide +kernel
theorem d_X9_house_8 : decode prog_11_method_35_code 8 = .ok (.aload_n 0, 1) := by decide +kernel
theorem d_X9_house_9 : decode prog_11_method_35_code 9 = .ok (.getfield 82, 3) := by decide +kernel
theorem d_X9_house_12 : decode prog_11_method_35_code 12 = .ok (.i2l, 1) := by decide +kernel
theorem d_X9_house_13 : decode prog_11_method_35_code 13 = .ok (.invokestatic 140, 3) := by decide +kernel
theorem d_X9_house_16 : decode prog_11_method_35_code 16 = .ok (.ifCond .ne 9, 3) := by decide +kernel
theorem d_X9_house_25 : decode prog_11_method_35_code 25 = .ok (.aload_n 0, 1) := by decide +kernel
theorem d_X9_house_26 : decode prog_11_method_35_code 26 = .ok (.iload_n 1, 1) := by decide +kernel
theorem k_1552 : Cond.fieldLink "PinchedBillModel" 85 "PinchedBillModel" "length" "I" ∈ gd_tbl := gd_in 1552 (by decide +kernel) (by decide +kernel)
theorem d_X9_house_27 : decode prog_11_method_35_code 27 = .ok (.putfield 85, 3) := by decide +kernel
theorem d_X9_house_30 : decode prog_11_method_35_code 30 = .ok (.aload_n 0, 1) := by decide +kernel
theorem d_X9_house_31 : decode prog_11_method_35_code 31 = .ok (.iconst 0, 1) := by decide +kernel
theorem d_X9_house_32 : decode prog_11_method_35_code 32 = .ok (.putfield 82, 3) := by decide +kernel
theorem d_X9_house_35 : decode prog_11_method_35_code 35 = .ok (.aload_n 0, 1) := by decide +kernel
theorem d_X9_house_36 : decode prog_11_method_35_code 36 = .ok (.iconst 0, 1) := by decide +kernel
theorem k_1553 : Cond.fieldLink "PinchedBillModel" 88 "PinchedBillModel" "head" "I" ∈ gd_tbl := gd_in 1553 (by decide +kernel) (by decide +kernel)
theorem d_X9_house_37 : decode prog_11_method_35_code 37 = .ok (.putfield 88, 3) := by decide +kernel
theorem d_X9_house_40 : decode prog_11_method_35_code 40 = .ok (.aload_n 0, 1) := by decide +kernel
theorem d_X9_house_41 : decode prog_11_method_35_code 41 = .ok (.iconst 0, 1) := by decide +kernel
theorem k_1557 : Cond.fieldLink "PinchedBillModel" 114 "PinchedBillModel" "bad" "I" ∈ gd_tbl := gd_in 1557 (by decide +kernel) (by decide +kernel)
theorem d_X9_house_42 : decode prog_11_method_35_code 42 = .ok (.putfield 114, 3) := by decide +kernel
theorem d_X9_house_45 : decode prog_11_method_35_code 45 = .ok (.aload_n 0, 1) := by decide +kernel
theorem d_X9_house_46 : decode prog_11_method_35_code 46 = .ok (.iconst 0, 1) := by decide +kernel
theorem k_1561 : Cond.fieldLink "PinchedBillModel" 156 "PinchedBillModel" "deep" "I" ∈ gd_tbl := gd_in 1561 (by decide +kernel) (by decide +kernel)
theorem d_X9_house_47 : decode prog_11_method_35_code 47 = .ok (.putfield 156, 3) := by decide +kernel
theorem d_X9_house_50 : decode prog_11_method_35_code 50 = .ok (.iconst 0, 1) := by decide +kernel
theorem d_X9_house_51 : decode prog_11_method_35_code 51 = .ok (.istore_n 2, 1) := by decide +kernel
theorem d_X9_house_52 : decode prog_11_method_35_code 52 = .ok (.iload_n 2, 1) := by decide +kernel
theorem d_X9_house_53 : decode prog_11_method_35_code 53 = .ok (.sipush 1875, 3) := by decide +kernel
theorem d_X9_house_56 : decode prog_11_method_35_code 56 = .ok (.if_icmp .ge 16, 3) := by decide +kernel
theorem d_X9_house_72 : decode prog_11_method_35_code 72 = .ok (.aload_n 0, 1) := by decide +kernel
theorem d_X9_house_73 : decode prog_11_method_35_code 73 = .ok (.getfield 13, 3) := by decide +kernel
theorem d_X9_house_76 : decode prog_11_method_35_code 76 = .ok (.bipush 7, 2) := by decide +kernel
theorem d_X9_house_78 : decode prog_11_method_35_code 78 = .ok (.iconst (-1), 1) := by decide +kernel
theorem d_X9_house_79 : decode prog_11_method_35_code 79 = .ok (.iastore, 1) := by decide +kernel
theorem d_X9_house_80 : decode prog_11_method_35_code 80 = .ok (.aload_n 0, 1) := by decide +kernel
theorem d_X9_readsOn_0 : decode prog_11_method_12_code 0 = .ok (.aload_n 0, 1) := by decide +kernel
theorem d_X9_readsOn_1 : decode prog_11_method_12_code 1 = .ok (.getfield 88, 3) := by decide +kernel
theorem d_X9_readsOn_4 : decode prog_11_method_12_code 4 = .ok (.aload_n 0, 1) := by decide +kernel
theorem d_X9_readsOn_5 : decode prog_11_method_12_code 5 = .ok (.getfield 85, 3) := by decide +kernel
theorem d_X9_readsOn_8 : decode prog_11_method_12_code 8 = .ok (.if_icmp .ge 44, 3) := by decide +kernel
theorem d_X9_readsOn_52 : decode prog_11_method_12_code 52 = .ok (.aload_n 0, 1) := by decide +kernel
theorem d_X9_readsOn_53 : decode prog_11_method_12_code 53 = .ok (.aload_n 0, 1) := by decide +kernel
theorem d_X9_readsOn_54 : decode prog_11_method_12_code 54 = .ok (.getfield 88, 3) := by decide +kernel
theorem k_1554 : Cond.fieldLink "PinchedBillModel" 91 "PinchedBillModel" "begin" "I" ∈ gd_tbl := gd_in 1554 (by decide +kernel) (by decide +kernel)
theorem d_X9_readsOn_57 : decode prog_11_method_12_code 57 = .ok (.putfield 91, 3) := by decide +kernel
theorem d_X9_readsOn_60 : decode prog_11_method_12_code 60 = .ok (.aload_n 0, 1) := by decide +kernel
theorem d_X9_readsOn_61 : decode prog_11_method_12_code 61 = .ok (.getfield 88, 3) := by decide +kernel
theorem d_X9_readsOn_64 : decode prog_11_method_12_code 64 = .ok (.aload_n 0, 1) := by decide +kernel
theorem d_X9_readsOn_65 : decode prog_11_method_12_code 65 = .ok (.getfield 85, 3) := by decide +kernel
theorem d_X9_readsOn_68 : decode prog_11_method_12_code 68 = .ok (.if_icmp .lt 9, 3) := by decide +kernel
theorem d_X9_readsOn_71 : decode prog_11_method_12_code 71 = .ok (.aload_n 0, 1) := by decide +kernel
theorem d_X9_readsOn_72 : decode prog_11_method_12_code 72 = .ok (.iconst 0, 1) := by decide +kernel
theorem k_1555 : Cond.fieldLink "PinchedBillModel" 94 "PinchedBillModel" "token" "I" ∈ gd_tbl := gd_in 1555 (by decide +kernel) (by decide +kernel)
theorem d_X9_readsOn_73 : decode prog_11_method_12_code 73 = .ok (.putfield 94, 3) := by decide +kernel
theorem d_X9_readsOn_76 : decode prog_11_method_12_code 76 = .ok (.return_, 1) := by decide +kernel
theorem k_1689 : Cond.code ⟨"PinchedBillModel", "readsOn", "()V"⟩ prog_11_method_12_code 2 none ∈ gd_tbl := gd_in 1689 (by decide +kernel) (by decide +kernel)
theorem k_1686 : Cond.methodLink "PinchedBillModel" 133 ⟨"PinchedBillModel", "readsOn", "()V"⟩ ∈ gd_tbl := gd_in 1686 (by decide +kernel) (by decide +kernel)
theorem k_1688 : Cond.instanceMethod ⟨"PinchedBillModel", "readsOn", "()V"⟩ ∈ gd_tbl := gd_in 1688 (by decide +kernel) (by decide +kernel)
theorem k_53 : Cond.selects "PinchedBillModel" ⟨"PinchedBillModel", "readsOn", "()V"⟩ ⟨"PinchedBillModel", "readsOn", "()V"⟩ ∈ gd_tbl := gd_in 53 (by decide +kernel) (by decide +kernel)
theorem kV_PinchedBillModel_133 : kV "PinchedBillModel" 133 ⟨"PinchedBillModel", "readsOn", "()V"⟩ prog_11_method_12_code 2 none 0 := ⟨k_1686, k_1688, k_53, k_122, k_1689, by decide, by decide, by decide +kernel⟩
theorem d_X9_house_81 : decode prog_11_method_35_code 81 = .ok (.invokevirtual 133, 3) := by decide +kernel
theorem d_X9_house_84 : decode prog_11_method_35_code 84 = .ok (.aload_n 0, 1) := by decide +kernel
theorem d_X9_house_85 : decode prog_11_method_35_code 85 = .ok (.ldc 245, 2) := by decide +kernel
theorem d_X9_mustWord_0 : decode prog_11_method_19_code 0 = .ok (.aload_n 0, 1) := by decide +kernel
theorem d_X9_mustWord_1 : decode prog_11_method_19_code 1 = .ok (.aload_n 1, 1) := by decide +kernel
theorem d_X9_took_0 : decode prog_11_method_15_code 0 = .ok (.aload_n 0, 1) := by decide +kernel
theorem d_X9_took_1 : decode prog_11_method_15_code 1 = .ok (.aload_n 1, 1) := by decide +kernel
theorem d_X9_isWord_0 : decode prog_11_method_14_code 0 = .ok (.aload_n 0, 1) := by decide +kernel
theorem d_X9_isWord_1 : decode prog_11_method_14_code 1 = .ok (.getfield 114, 3) := by decide +kernel
theorem d_X9_isWord_4 : decode prog_11_method_14_code 4 = .ok (.ifCond .ne 31, 3) := by decide +kernel
theorem d_X9_isWord_7 : decode prog_11_method_14_code 7 = .ok (.aload_n 0, 1) := by decide +kernel
theorem d_X9_isWord_8 : decode prog_11_method_14_code 8 = .ok (.getfield 94, 3) := by decide +kernel
theorem d_X9_isWord_11 : decode prog_11_method_14_code 11 = .ok (.iconst 1, 1) := by decide +kernel
theorem d_X9_isWord_12 : decode prog_11_method_14_code 12 = .ok (.if_icmp .ne 23, 3) := by decide +kernel
theorem d_X9_isWord_35 : decode prog_11_method_14_code 35 = .ok (.iconst 0, 1) := by decide +kernel
theorem d_X9_isWord_36 : decode prog_11_method_14_code 36 = .ok (.istore_n 2, 1) := by decide +kernel
theorem d_X9_isWord_37 : decode prog_11_method_14_code 37 = .ok (.iconst 0, 1) := by decide +kernel
theorem d_X9_isWord_38 : decode prog_11_method_14_code 38 = .ok (.istore_n 3, 1) := by decide +kernel
theorem d_X9_isWord_39 : decode prog_11_method_14_code 39 = .ok (.iload_n 2, 1) := by decide +kernel
theorem d_X9_isWord_40 : decode prog_11_method_14_code 40 = .ok (.ifCond .eq 42, 3) := by decide +kernel
theorem d_X9_isWord_82 : decode prog_11_method_14_code 82 = .ok (.iload_n 2, 1) := by decide +kernel
theorem d_X9_isWord_83 : decode prog_11_method_14_code 83 = .ok (.ireturn, 1) := by decide +kernel
theorem k_1715 : Cond.code ⟨"PinchedBillModel", "isWord", "(Ljava/lang/String;)Z"⟩ prog_11_method_14_code 4 (some .boolean) ∈ gd_tbl := gd_in 1715 (by decide +kernel) (by decide +kernel)
theorem k_1712 : Cond.methodLink "PinchedBillModel" 129 ⟨"PinchedBillModel", "isWord", "(Ljava/lang/String;)Z"⟩ ∈ gd_tbl := gd_in 1712 (by decide +kernel) (by decide +kernel)
theorem k_1714 : Cond.instanceMethod ⟨"PinchedBillModel", "isWord", "(Ljava/lang/String;)Z"⟩ ∈ gd_tbl := gd_in 1714 (by decide +kernel) (by decide +kernel)
theorem k_57 : Cond.selects "PinchedBillModel" ⟨"PinchedBillModel", "isWord", "(Ljava/lang/String;)Z"⟩ ⟨"PinchedBillModel", "isWord", "(Ljava/lang/String;)Z"⟩ ∈ gd_tbl := gd_in 57 (by decide +kernel) (by decide +kernel)
theorem kV_PinchedBillModel_129 : kV "PinchedBillModel" 129 ⟨"PinchedBillModel", "isWord", "(Ljava/lang/String;)Z"⟩ prog_11_method_14_code 4 (some .boolean) 1 := ⟨k_1712, k_1714, k_57, k_122, k_1715, by decide, by decide, by decide +kernel⟩
theorem d_X9_took_2 : decode prog_11_method_15_code 2 = .ok (.invokevirtual 129, 3) := by decide +kernel
theorem d_X9_took_5 : decode prog_11_method_15_code 5 = .ok (.istore_n 2, 1) := by decide +kernel
theorem d_X9_took_6 : decode prog_11_method_15_code 6 = .ok (.iload_n 2, 1) := by decide +kernel
theorem d_X9_took_7 : decode prog_11_method_15_code 7 = .ok (.ifCond .eq 7, 3) := by decide +kernel
theorem d_X9_took_14 : decode prog_11_method_15_code 14 = .ok (.iload_n 2, 1) := by decide +kernel
theorem d_X9_took_15 : decode prog_11_method_15_code 15 = .ok (.ireturn, 1) := by decide +kernel
theorem k_1711 : Cond.code ⟨"PinchedBillModel", "took", "(Ljava/lang/String;)Z"⟩ prog_11_method_15_code 3 (some .boolean) ∈ gd_tbl := gd_in 1711 (by decide +kernel) (by decide +kernel)
theorem k_1708 : Cond.methodLink "PinchedBillModel" 144 ⟨"PinchedBillModel", "took", "(Ljava/lang/String;)Z"⟩ ∈ gd_tbl := gd_in 1708 (by decide +kernel) (by decide +kernel)
theorem k_1710 : Cond.instanceMethod ⟨"PinchedBillModel", "took", "(Ljava/lang/String;)Z"⟩ ∈ gd_tbl := gd_in 1710 (by decide +kernel) (by decide +kernel)
theorem k_56 : Cond.selects "PinchedBillModel" ⟨"PinchedBillModel", "took", "(Ljava/lang/String;)Z"⟩ ⟨"PinchedBillModel", "took", "(Ljava/lang/String;)Z"⟩ ∈ gd_tbl := gd_in 56 (by decide +kernel) (by decide +kernel)
theorem kV_PinchedBillModel_144 : kV "PinchedBillModel" 144 ⟨"PinchedBillModel", "took", "(Ljava/lang/String;)Z"⟩ prog_11_method_15_code 3 (some .boolean) 1 := ⟨k_1708, k_1710, k_56, k_122, k_1711, by decide, by decide, by decide +kernel⟩
theorem d_X9_mustWord_2 : decode prog_11_method_19_code 2 = .ok (.invokevirtual 144, 3) := by decide +kernel
theorem d_X9_mustWord_5 : decode prog_11_method_19_code 5 = .ok (.ifCond .ne 8, 3) := by decide +kernel
theorem d_X9_mustWord_8 : decode prog_11_method_19_code 8 = .ok (.aload_n 0, 1) := by decide +kernel
theorem d_X9_mustWord_9 : decode prog_11_method_19_code 9 = .ok (.iconst 2, 1) := by decide +kernel
theorem d_X9_blames_0 : decode prog_11_method_13_code 0 = .ok (.aload_n 0, 1) := by decide +kernel
theorem d_X9_blames_1 : decode prog_11_method_13_code 1 = .ok (.getfield 114, 3) := by decide +kernel
theorem d_X9_blames_4 : decode prog_11_method_13_code 4 = .ok (.ifCond .eq 4, 3) := by decide +kernel
theorem d_X9_blames_8 : decode prog_11_method_13_code 8 = .ok (.aload_n 0, 1) := by decide +kernel
theorem d_X9_blames_9 : decode prog_11_method_13_code 9 = .ok (.aload_n 0, 1) := by decide +kernel
theorem d_X9_blames_10 : decode prog_11_method_13_code 10 = .ok (.getfield 94, 3) := by decide +kernel
theorem d_X9_blames_13 : decode prog_11_method_13_code 13 = .ok (.iconst 3, 1) := by decide +kernel
theorem d_X9_blames_14 : decode prog_11_method_13_code 14 = .ok (.if_icmp .ne 7, 3) := by decide +kernel
theorem d_X9_blames_21 : decode prog_11_method_13_code 21 = .ok (.iload_n 1, 1) := by decide +kernel
theorem d_X9_blames_22 : decode prog_11_method_13_code 22 = .ok (.putfield 114, 3) := by decide +kernel
theorem d_X9_blames_25 : decode prog_11_method_13_code 25 = .ok (.aload_n 0, 1) := by decide +kernel
theorem d_X9_blames_26 : decode prog_11_method_13_code 26 = .ok (.aload_n 0, 1) := by decide +kernel
theorem d_X9_blames_27 : decode prog_11_method_13_code 27 = .ok (.getfield 91, 3) := by decide +kernel
theorem k_1558 : Cond.fieldLink "PinchedBillModel" 117 "PinchedBillModel" "badPlace" "I" ∈ gd_tbl := gd_in 1558 (by decide +kernel) (by decide +kernel)
theorem d_X9_blames_30 : decode prog_11_method_13_code 30 = .ok (.putfield 117, 3) := by decide +kernel
theorem d_X9_blames_33 : decode prog_11_method_13_code 33 = .ok (.return_, 1) := by decide +kernel
theorem k_1721 : Cond.code ⟨"PinchedBillModel", "blames", "(I)V"⟩ prog_11_method_13_code 2 none ∈ gd_tbl := gd_in 1721 (by decide +kernel) (by decide +kernel)
theorem k_1718 : Cond.methodLink "PinchedBillModel" 136 ⟨"PinchedBillModel", "blames", "(I)V"⟩ ∈ gd_tbl := gd_in 1718 (by decide +kernel) (by decide +kernel)
theorem k_1720 : Cond.instanceMethod ⟨"PinchedBillModel", "blames", "(I)V"⟩ ∈ gd_tbl := gd_in 1720 (by decide +kernel) (by decide +kernel)
theorem k_58 : Cond.selects "PinchedBillModel" ⟨"PinchedBillModel", "blames", "(I)V"⟩ ⟨"PinchedBillModel", "blames", "(I)V"⟩ ∈ gd_tbl := gd_in 58 (by decide +kernel) (by decide +kernel)
theorem kV_PinchedBillModel_136 : kV "PinchedBillModel" 136 ⟨"PinchedBillModel", "blames", "(I)V"⟩ prog_11_method_13_code 2 none 1 := ⟨k_1718, k_1720, k_58, k_122, k_1721, by decide, by decide, by decide +kernel⟩
theorem d_X9_mustWord_10 : decode prog_11_method_19_code 10 = .ok (.invokevirtual 136, 3) := by decide +kernel
theorem d_X9_mustWord_13 : decode prog_11_method_19_code 13 = .ok (.return_, 1) := by decide +kernel
theorem k_1707 : Cond.code ⟨"PinchedBillModel", "mustWord", "(Ljava/lang/String;)V"⟩ prog_11_method_19_code 2 none ∈ gd_tbl := gd_in 1707 (by decide +kernel) (by decide +kernel)
theorem k_1704 : Cond.methodLink "PinchedBillModel" 247 ⟨"PinchedBillModel", "mustWord", "(Ljava/lang/String;)V"⟩ ∈ gd_tbl := gd_in 1704 (by decide +kernel) (by decide +kernel)
theorem k_1706 : Cond.instanceMethod ⟨"PinchedBillModel", "mustWord", "(Ljava/lang/String;)V"⟩ ∈ gd_tbl := gd_in 1706 (by decide +kernel) (by decide +kernel)
theorem k_55 : Cond.selects "PinchedBillModel" ⟨"PinchedBillModel", "mustWord", "(Ljava/lang/String;)V"⟩ ⟨"PinchedBillModel", "mustWord", "(Ljava/lang/String;)V"⟩ ∈ gd_tbl := gd_in 55 (by decide +kernel) (by decide +kernel)
theorem kV_PinchedBillModel_247 : kV "PinchedBillModel" 247 ⟨"PinchedBillModel", "mustWord", "(Ljava/lang/String;)V"⟩ prog_11_method_19_code 2 none 1 := ⟨k_1704, k_1706, k_55, k_122, k_1707, by decide, by decide, by decide +kernel⟩
theorem d_X9_house_87 : decode prog_11_method_35_code 87 = .ok (.invokevirtual 247, 3) := by decide +kernel
theorem d_X9_house_90 : decode prog_11_method_35_code 90 = .ok (.aload_n 0, 1) := by decide +kernel
theorem d_X9_house_91 : decode prog_11_method_35_code 91 = .ok (.ldc 251, 2) := by decide +kernel
theorem d_X9_blames_7 : decode prog_11_method_13_code 7 = .ok (.return_, 1) := by decide +kernel
theorem d_X9_house_93 : decode prog_11_method_35_code 93 = .ok (.invokevirtual 247, 3) := by decide +kernel
theorem d_X9_house_96 : decode prog_11_method_35_code 96 = .ok (.aload_n 0, 1) := by decide +kernel
theorem d_X9_house_97 : decode prog_11_method_35_code 97 = .ok (.getfield 13, 3) := by decide +kernel
theorem d_X9_house_100 : decode prog_11_method_35_code 100 = .ok (.iconst 1, 1) := by decide +kernel
theorem d_X9_house_101 : decode prog_11_method_35_code 101 = .ok (.aload_n 0, 1) := by decide +kernel
theorem d_X9_house_102 : decode prog_11_method_35_code 102 = .ok (.iconst 1, 1) := by decide +kernel
theorem d_X9_house_103 : decode prog_11_method_35_code 103 = .ok (.iconst 3, 1) := by decide +kernel
theorem d_X9_number_0 : decode prog_11_method_18_code 0 = .ok (.aload_n 0, 1) := by decide +kernel
theorem d_X9_number_1 : decode prog_11_method_18_code 1 = .ok (.getfield 94, 3) := by decide +kernel
theorem d_X9_number_4 : decode prog_11_method_18_code 4 = .ok (.iconst 2, 1) := by decide +kernel
theorem d_X9_number_5 : decode prog_11_method_18_code 5 = .ok (.if_icmp .eq 11, 3) := by decide +kernel
theorem d_X9_number_8 : decode prog_11_method_18_code 8 = .ok (.aload_n 0, 1) := by decide +kernel
theorem d_X9_number_9 : decode prog_11_method_18_code 9 = .ok (.iconst 2, 1) := by decide +kernel
theorem d_X9_number_10 : decode prog_11_method_18_code 10 = .ok (.invokevirtual 136, 3) := by decide +kernel
theorem d_X9_number_13 : decode prog_11_method_18_code 13 = .ok (.goto 23, 3) := by decide +kernel
theorem d_X9_number_36 : decode prog_11_method_18_code 36 = .ok (.aload_n 0, 1) := by decide +kernel
theorem k_1556 : Cond.fieldLink "PinchedBillModel" 108 "PinchedBillModel" "value" "I" ∈ gd_tbl := gd_in 1556 (by decide +kernel) (by decide +kernel)
theorem d_X9_number_37 : decode prog_11_method_18_code 37 = .ok (.getfield 108, 3) := by decide +kernel
theorem d_X9_number_40 : decode prog_11_method_18_code 40 = .ok (.istore_n 3, 1) := by decide +kernel
theorem d_X9_number_41 : decode prog_11_method_18_code 41 = .ok (.aload_n 0, 1) := by decide +kernel
theorem d_X9_number_42 : decode prog_11_method_18_code 42 = .ok (.getfield 114, 3) := by decide +kernel
theorem d_X9_number_45 : decode prog_11_method_18_code 45 = .ok (.ifCond .ne 7, 3) := by decide +kernel
theorem d_X9_number_52 : decode prog_11_method_18_code 52 = .ok (.aload_n 0, 1) := by decide +kernel
theorem d_X9_number_53 : decode prog_11_method_18_code 53 = .ok (.getfield 114, 3) := by decide +kernel
theorem d_X9_number_56 : decode prog_11_method_18_code 56 = .ok (.ifCond .ne 7, 3) := by decide +kernel
theorem d_X9_number_63 : decode prog_11_method_18_code 63 = .ok (.iload_n 1, 1) := by decide +kernel
theorem d_X9_number_64 : decode prog_11_method_18_code 64 = .ok (.ireturn, 1) := by decide +kernel
theorem k_1726 : Cond.code ⟨"PinchedBillModel", "number", "(II)I"⟩ prog_11_method_18_code 4 (some .int) ∈ gd_tbl := gd_in 1726 (by decide +kernel) (by decide +kernel)
theorem k_1723 : Cond.methodLink "PinchedBillModel" 210 ⟨"PinchedBillModel", "number", "(II)I"⟩ ∈ gd_tbl := gd_in 1723 (by decide +kernel) (by decide +kernel)
theorem k_1725 : Cond.instanceMethod ⟨"PinchedBillModel", "number", "(II)I"⟩ ∈ gd_tbl := gd_in 1725 (by decide +kernel) (by decide +kernel)
theorem k_59 : Cond.selects "PinchedBillModel" ⟨"PinchedBillModel", "number", "(II)I"⟩ ⟨"PinchedBillModel", "number", "(II)I"⟩ ∈ gd_tbl := gd_in 59 (by decide +kernel) (by decide +kernel)
theorem kV_PinchedBillModel_210 : kV "PinchedBillModel" 210 ⟨"PinchedBillModel", "number", "(II)I"⟩ prog_11_method_18_code 4 (some .int) 2 := ⟨k_1723, k_1725, k_59, k_122, k_1726, by decide, by decide, by decide +kernel⟩
theorem d_X9_house_104 : decode prog_11_method_35_code 104 = .ok (.invokevirtual 210, 3) := by decide +kernel
theorem d_X9_house_107 : decode prog_11_method_35_code 107 = .ok (.iastore, 1) := by decide +kernel
theorem d_X9_house_108 : decode prog_11_method_35_code 108 = .ok (.aload_n 0, 1) := by decide +kernel
theorem d_X9_readStop_0 : decode prog_11_method_33_code 0 = .ok (.aload_n 0, 1) := by decide +kernel
theorem d_X9_readStop_1 : decode prog_11_method_33_code 1 = .ok (.bipush 59, 2) := by decide +kernel
theorem d_X9_mustSign_0 : decode prog_11_method_17_code 0 = .ok (.aload_n 0, 1) := by decide +kernel
theorem d_X9_mustSign_1 : decode prog_11_method_17_code 1 = .ok (.getfield 94, 3) := by decide +kernel
theorem d_X9_mustSign_4 : decode prog_11_method_17_code 4 = .ok (.iload_n 1, 1) := by decide +kernel
theorem d_X9_mustSign_5 : decode prog_11_method_17_code 5 = .ok (.if_icmp .eq 8, 3) := by decide +kernel
theorem d_X9_mustSign_8 : decode prog_11_method_17_code 8 = .ok (.aload_n 0, 1) := by decide +kernel
theorem d_X9_mustSign_9 : decode prog_11_method_17_code 9 = .ok (.iconst 2, 1) := by decide +kernel
theorem d_X9_mustSign_10 : decode prog_11_method_17_code 10 = .ok (.invokevirtual 136, 3) := by decide +kernel
theorem d_X9_mustSign_13 : decode prog_11_method_17_code 13 = .ok (.aload_n 0, 1) := by decide +kernel
theorem d_X9_mustSign_14 : decode prog_11_method_17_code 14 = .ok (.getfield 114, 3) := by decide +kernel
theorem d_X9_mustSign_17 : decode prog_11_method_17_code 17 = .ok (.ifCond .ne 7, 3) := by decide +kernel
theorem d_X9_mustSign_24 : decode prog_11_method_17_code 24 = .ok (.return_, 1) := by decide +kernel
theorem k_1734 : Cond.code ⟨"PinchedBillModel", "mustSign", "(I)V"⟩ prog_11_method_17_code 2 none ∈ gd_tbl := gd_in 1734 (by decide +kernel) (by decide +kernel)
theorem k_1731 : Cond.methodLink "PinchedBillModel" 153 ⟨"PinchedBillModel", "mustSign", "(I)V"⟩ ∈ gd_tbl := gd_in 1731 (by decide +kernel) (by decide +kernel)
theorem k_1733 : Cond.instanceMethod ⟨"PinchedBillModel", "mustSign", "(I)V"⟩ ∈ gd_tbl := gd_in 1733 (by decide +kernel) (by decide +kernel)
theorem k_61 : Cond.selects "PinchedBillModel" ⟨"PinchedBillModel", "mustSign", "(I)V"⟩ ⟨"PinchedBillModel", "mustSign", "(I)V"⟩ ∈ gd_tbl := gd_in 61 (by decide +kernel) (by decide +kernel)
theorem kV_PinchedBillModel_153 : kV "PinchedBillModel" 153 ⟨"PinchedBillModel", "mustSign", "(I)V"⟩ prog_11_method_17_code 2 none 1 := ⟨k_1731, k_1733, k_61, k_122, k_1734, by decide, by decide, by decide +kernel⟩
theorem d_X9_readStop_3 : decode prog_11_method_33_code 3 = .ok (.invokevirtual 153, 3) := by decide +kernel
theorem d_X9_readStop_6 : decode prog_11_method_33_code 6 = .ok (.aload_n 0, 1) := by decide +kernel
theorem d_X9_readStop_7 : decode prog_11_method_33_code 7 = .ok (.getfield 114, 3) := by decide +kernel
theorem d_X9_readStop_10 : decode prog_11_method_33_code 10 = .ok (.ifCond .ne 13, 3) := by decide +kernel
theorem d_X9_readStop_23 : decode prog_11_method_33_code 23 = .ok (.return_, 1) := by decide +kernel
theorem k_1730 : Cond.code ⟨"PinchedBillModel", "readStop", "()V"⟩ prog_11_method_33_code 1 none ∈ gd_tbl := gd_in 1730 (by decide +kernel) (by decide +kernel)
theorem k_1727 : Cond.methodLink "PinchedBillModel" 239 ⟨"PinchedBillModel", "readStop", "()V"⟩ ∈ gd_tbl := gd_in 1727 (by decide +kernel) (by decide +kernel)
theorem k_1729 : Cond.instanceMethod ⟨"PinchedBillModel", "readStop", "()V"⟩ ∈ gd_tbl := gd_in 1729 (by decide +kernel) (by decide +kernel)
theorem k_60 : Cond.selects "PinchedBillModel" ⟨"PinchedBillModel", "readStop", "()V"⟩ ⟨"PinchedBillModel", "readStop", "()V"⟩ ∈ gd_tbl := gd_in 60 (by decide +kernel) (by decide +kernel)
theorem kV_PinchedBillModel_239 : kV "PinchedBillModel" 239 ⟨"PinchedBillModel", "readStop", "()V"⟩ prog_11_method_33_code 1 none 0 := ⟨k_1727, k_1729, k_60, k_122, k_1730, by decide, by decide, by decide +kernel⟩
theorem d_X9_house_109 : decode prog_11_method_35_code 109 = .ok (.invokevirtual 239, 3) := by decide +kernel
theorem d_X9_house_112 : decode prog_11_method_35_code 112 = .ok (.aload_n 0, 1) := by decide +kernel
theorem d_X9_house_113 : decode prog_11_method_35_code 113 = .ok (.getfield 114, 3) := by decide +kernel
theorem d_X9_house_116 : decode prog_11_method_35_code 116 = .ok (.ifCond .ne 17, 3) := by decide +kernel
theorem d_X9_house_133 : decode prog_11_method_35_code 133 = .ok (.aload_n 0, 1) := by decide +kernel
theorem d_X9_house_134 : decode prog_11_method_35_code 134 = .ok (.aload_n 0, 1) := by decide +kernel
theorem d_X9_house_135 : decode prog_11_method_35_code 135 = .ok (.getfield 114, 3) := by decide +kernel
theorem d_X9_house_138 : decode prog_11_method_35_code 138 = .ok (.putfield 256, 3) := by decide +kernel
theorem d_X9_house_141 : decode prog_11_method_35_code 141 = .ok (.aload_n 0, 1) := by decide +kernel
theorem d_X9_house_142 : decode prog_11_method_35_code 142 = .ok (.aload_n 0, 1) := by decide +kernel
theorem d_X9_house_143 : decode prog_11_method_35_code 143 = .ok (.getfield 114, 3) := by decide +kernel
theorem d_X9_house_146 : decode prog_11_method_35_code 146 = .ok (.ifCond .ne 7, 3) := by decide +kernel
theorem d_X9_house_153 : decode prog_11_method_35_code 153 = .ok (.aload_n 0, 1) := by decide +kernel
theorem d_X9_house_154 : decode prog_11_method_35_code 154 = .ok (.getfield 117, 3) := by decide +kernel
theorem d_X9_house_157 : decode prog_11_method_35_code 157 = .ok (.putfield 26, 3) := by decide +kernel
theorem d_X9_house_160 : decode prog_11_method_35_code 160 = .ok (.aload_n 0, 1) := by decide +kernel
theorem d_X9_house_161 : decode prog_11_method_35_code 161 = .ok (.getfield 114, 3) := by decide +kernel
theorem d_X9_house_164 : decode prog_11_method_35_code 164 = .ok (.ifCond .eq 11, 3) := by decide +kernel
theorem d_X9_house_167 : decode prog_11_method_35_code 167 = .ok (.bipush (-10), 2) := by decide +kernel
theorem d_X9_house_169 : decode prog_11_method_35_code 169 = .ok (.aload_n 0, 1) := by decide +kernel
theorem d_X9_house_170 : decode prog_11_method_35_code 170 = .ok (.getfield 114, 3) := by decide +kernel
theorem d_X9_house_173 : decode prog_11_method_35_code 173 = .ok (.isub, 1) := by decide +kernel
theorem d_X9_house_174 : decode prog_11_method_35_code 174 = .ok (.ireturn, 1) := by decide +kernel
theorem d_X9_house_59 : decode prog_11_method_35_code 59 = .ok (.aload_n 0, 1) := by decide +kernel
theorem d_X9_house_60 : decode prog_11_method_35_code 60 = .ok (.getfield 13, 3) := by decide +kernel
theorem d_X9_house_63 : decode prog_11_method_35_code 63 = .ok (.iload_n 2, 1) := by decide +kernel
theorem d_X9_house_64 : decode prog_11_method_35_code 64 = .ok (.iconst 0, 1) := by decide +kernel
theorem d_X9_house_65 : decode prog_11_method_35_code 65 = .ok (.iastore, 1) := by decide +kernel
theorem d_X9_house_66 : decode prog_11_method_35_code 66 = .ok (.iinc 2 1, 3) := by decide +kernel
theorem d_X9_house_69 : decode prog_11_method_35_code 69 = .ok (.goto (-17), 3) := by decide +kernel
theorem d_X9_house_19 : decode prog_11_method_35_code 19 = .ok (.aload_n 0, 1) := by decide +kernel
theorem d_X9_house_20 : decode prog_11_method_35_code 20 = .ok (.iconst 1, 1) := by decide +kernel
theorem d_X9_house_21 : decode prog_11_method_35_code 21 = .ok (.invokevirtual 242, 3) := by decide +kernel
theorem d_X9_house_24 : decode prog_11_method_35_code 24 = .ok (.ireturn, 1) := by decide +kernel
theorem t_4 {t : Int32} (h : ¬ (¬ t < 0 ∧ t < 4)) : ¬ (¬ t < 0 ∧ ¬ 3 < t) := fun h2 => h ⟨h2.1, by
  have h3 := h2.2
  rw [Int32.lt_iff_toInt_lt] at h3 ⊢
  have e3 : (3 : Int32).toInt = 3 := by decide
  have e4 : (4 : Int32).toInt = 4 := by decide
  omega⟩
theorem t_3 {t : Int32} (h : ¬ (¬ t < 0 ∧ t < 3)) : ¬ (¬ t < 0 ∧ ¬ 2 < t) := fun h2 => h ⟨h2.1, by
  have h3 := h2.2
  rw [Int32.lt_iff_toInt_lt] at h3 ⊢
  have e3 : (2 : Int32).toInt = 2 := by decide
  have e4 : (3 : Int32).toInt = 3 := by decide
  omega⟩
theorem n_pos {n : Int32} (h : ¬ n < 1 ∧ ¬ 10 < n) : ¬ n ≤ 0 := fun h2 => h.1 (by
  rw [Int32.lt_iff_toInt_lt]
  rw [Int32.le_iff_toInt_le] at h2
  have e3 : (1 : Int32).toInt = 1 := by decide
  have e4 : (0 : Int32).toInt = 0 := by decide
  omega)
set_option maxHeartbeats 4000000 in
set_option maxRecDepth 100000 in
theorem m_person (l : Launch) (D : va_G) (ty : Nat → ClassId) (h0 : Nat) (k0 : Nat) (k1 : Nat) (k2 : Nat) (k3 : Nat) (k5 : Nat) (k19 : Nat) (k20 : Nat) (k21 : Nat) (k22 : Nat) (k23 : Nat) (k25 : Nat) (k26 : Nat) (k27 : Nat) (k30 : Nat) (k31 : Nat) (k33 : Nat) (k36 : Nat) (k37 : Nat) (k38 : Nat) (k39 : Nat) (pn : Int32) (wh : Int32) : CC l D ty ⟨"PinchedBillModel", "person", "(II)I"⟩ prog_11_method_55_code 3 (some .int) 2 47 0 0 [.ref h0, .int pn, .int wh] [(h0, eO 9 [.ref k0, .ref k1, .ref k2, .ref k3, .int 0, .ref k5, .int 0, .int 0, .int 0, .int 0, .int 0, .int 0, .int 0, .int 0, .int 0, .int (-1), .int 0, .int 0, .int 0, .ref k19, .ref k20, .ref k21, .ref k22, .ref k23, .int 0, .ref k25, .ref k26, .ref k27, .int 0, .int 0, .ref k30, .ref k31, .int 0, .ref k33, .int 0, .int 0, .ref k36, .ref k37, .ref k38, .ref k39]), (k0, eI (ty 0) 1875 knF)] (QI D ty (fun (r : Int32) (w : va_W) => ∃ (w6 : Value) (w7 : Value) (w8 : Value) (w9 : Value) (w10 : Value) (w11 : Value) (w12 : Value) (w13 : Value) (w14 : Value) (w15 : Value) (w16 : Value) (w17 : Value) (w18 : Value) (w24 : Value) (w28 : Value) (w29 : Value) (w32 : Value) (w34 : Value) (w35 : Value), 0 = r ∧ w = [(h0, eO 9 [.ref k0, .ref k1, .ref k2, .ref k3, .int 1, .ref k5, w6, w7, w8, w9, w10, w11, w12, w13, w14, w15, w16, w17, w18, .ref k19, .ref k20, .ref k21, .ref k22, .ref k23, w24, .ref k25, .ref k26, .ref k27, w28, w29, .ref k30, .ref k31, w32, .ref k33, w34, w35, .ref k36, .ref k37, .ref k38, .ref k39])])) := by
  refine CC_of (by decide) ?_
  intro p e s m below meth c A C hP hD hS
  obtain ⟨⟨hx, hb, hml, hown, hts⟩, hr, hlocks, hnm, hK, hE, hA, hZ⟩ := id C
  refine startW [.ref h0, .int pn, .int wh] 3 (nle rfl) (lv := [(0, .ref h0), (1, .int pn), (2, .int wh)]) rfl (fun ls hl => ?_)
  refine lv_aload_n hx hb d_X9_person_0 rfl (lv_at hl 0 rfl) ?_
  refine lv_aload_n hx hb d_X9_person_1 rfl (lv_at hl 0 rfl) ?_
  refine lv_iload_n hx hb d_X9_person_2 rfl (lv_at hl 1 rfl) ?_
  refine lv_i2l (v := (pn).toInt64) hx hb d_X9_person_3 rfl ?_
  have ct_1 : Cut [(h0, eO 9 [.ref k0, .ref k1, .ref k2, .ref k3, .int 0, .ref k5, .int 0, .int 0, .int 0, .int 0, .int 0, .int 0, .int 0, .int 0, .int 0, .int (-1), .int 0, .int 0, .int 0, .ref k19, .ref k20, .ref k21, .ref k22, .ref k23, .int 0, .ref k25, .ref k26, .ref k27, .int 0, .int 0, .ref k30, .ref k31, .int 0, .ref k33, .int 0, .int 0, .ref k36, .ref k37, .ref k38, .ref k39]), (k0, eI (ty 0) 1875 knF)] [(h0, eO 9 [.ref k0, .ref k1, .ref k2, .ref k3, .int 0, .ref k5, .int 0, .int 0, .int 0, .int 0, .int 0, .int 0, .int 0, .int 0, .int 0, .int (-1), .int 0, .int 0, .int 0, .ref k19, .ref k20, .ref k21, .ref k22, .ref k23, .int 0, .ref k25, .ref k26, .ref k27, .int 0, .int 0, .ref k30, .ref k31, .int 0, .ref k33, .int 0, .int 0, .ref k36, .ref k37, .ref k38, .ref k39]), (k0, eI (ty 0) 1875 knF)] [] [0, 1] [] := ⟨rfl, rfl, rfl, rfl, by decide⟩
  refine cont_I C hP hD hS ct_1 (run_V (As := [.long (pn).toInt64]) (rest := [.ref h0]) C hP hD hS ct_1 (c_misP l D ty h0 k0 k1 k2 k3 k5 k19 k20 k21 k22 k23 k25 k26 k27 k30 k31 k33 k36 k37 k38 k39 (.int 0) (.int 0) (.int 0) (.int 0) (.int 0) (.int 0) (.int 0) (.int 0) (.int 0) (.int 0) (.int (-1)) (.int 0) (.int 0) (.int 0) (.int 0) (.int 0) (.int 0) (.int 0) (.int 0) (.int 0) knF ((pn).toInt64) KF_0) kV_PinchedBillModel_320 0 rfl rfl rfl rfl hl.1 rfl (nle rfl) d_X9_person_4 ⟨by decide, by decide, by decide, by decide⟩) (fun r_3 w_4 H locs hw_2 hP hD hS => ?_)
  obtain ⟨rfl, rfl⟩ := hw_2
  have hP : va_P D vwCl [(h0, eO 9 [.ref k0, .ref k1, .ref k2, .ref k3, .int 0, .ref k5, .int 0, .int 0, .int 0, .int 0, .int 0, .int 0, .int 0, .int 0, .int 0, .int (-1), .int 0, .int 0, .int 0, .ref k19, .ref k20, .ref k21, .ref k22, .ref k23, .int 0, .ref k25, .ref k26, .ref k27, .int 0, .int 0, .ref k30, .ref k31, .int 0, .ref k33, .int 0, .int 0, .ref k36, .ref k37, .ref k38, .ref k39]), (k0, eI (ty 0) 1875 knF)] H := hP
  have hD : va_D A [(h0, eO 9 [.ref k0, .ref k1, .ref k2, .ref k3, .int 0, .ref k5, .int 0, .int 0, .int 0, .int 0, .int 0, .int 0, .int 0, .int 0, .int 0, .int (-1), .int 0, .int 0, .int 0, .ref k19, .ref k20, .ref k21, .ref k22, .ref k23, .int 0, .ref k25, .ref k26, .ref k27, .int 0, .int 0, .ref k30, .ref k31, .int 0, .ref k33, .int 0, .int 0, .ref k36, .ref k37, .ref k38, .ref k39]), (k0, eI (ty 0) 1875 knF)] := hD
  refine b_if_neF C 14 d_X9_person_7 (by decide) (by decide) ?_
  refine lv_iconst (v := 1) hx hb d_X9_person_10 (by decide) ?_
  refine lv_goto (tgt := 31) hx hb d_X9_person_11 (by decide) ?_
  refine r_put (w := [(h0, eO 9 [.ref k0, .ref k1, .ref k2, .ref k3, .int 1, .ref k5, .int 0, .int 0, .int 0, .int 0, .int 0, .int 0, .int 0, .int 0, .int 0, .int (-1), .int 0, .int 0, .int 0, .ref k19, .ref k20, .ref k21, .ref k22, .ref k23, .int 0, .ref k25, .ref k26, .ref k27, .int 0, .int 0, .ref k30, .ref k31, .int 0, .ref k33, .int 0, .int 0, .ref k36, .ref k37, .ref k38, .ref k39]), (k0, eI (ty 0) 1875 knF)]) C hP hD hS 0 rfl rfl lay_X9 tok_X9 nmo_X9 4 (by decide) k_1549 rfl rfl rfl (nle rfl) rfl d_X9_person_31 (fun H locs hP hD hS => ?_)
  refine lv_aload_n hx hb d_X9_person_34 rfl (lv_at hl 0 rfl) ?_
  refine r_get (v := .int 1) C hP 0 rfl rfl lay_X9 4 (by decide) k_1549 rfl d_X9_person_35 ?_
  refine b_if_leF C 43 d_X9_person_38 (by decide) (by decide) ?_
  refine lv_iconst (v := 0) hx hb d_X9_person_41 (by decide) ?_
  exact ret_I (w := [(h0, eO 9 [.ref k0, .ref k1, .ref k2, .ref k3, .int 1, .ref k5, .int 0, .int 0, .int 0, .int 0, .int 0, .int 0, .int 0, .int 0, .int 0, .int (-1), .int 0, .int 0, .int 0, .ref k19, .ref k20, .ref k21, .ref k22, .ref k23, .int 0, .ref k25, .ref k26, .ref k27, .int 0, .int 0, .ref k30, .ref k31, .int 0, .ref k33, .int 0, .int 0, .ref k36, .ref k37, .ref k38, .ref k39])]) C hP hD hS [0] rfl rfl ⟨(.int 0), (.int 0), (.int 0), (.int 0), (.int 0), (.int 0), (.int 0), (.int 0), (.int 0), (.int (-1)), (.int 0), (.int 0), (.int 0), (.int 0), (.int 0), (.int 0), (.int 0), (.int 0), (.int 0), rfl, rfl⟩ (by decide) (by decide) d_X9_person_42
set_option maxHeartbeats 4000000 in
set_option maxRecDepth 100000 in
theorem m_spoken (l : Launch) (D : va_G) (ty : Nat → ClassId) (h0 : Nat) (k0 : Nat) (k1 : Nat) (k2 : Nat) (k3 : Nat) (k5 : Nat) (k19 : Nat) (k20 : Nat) (k21 : Nat) (k22 : Nat) (k23 : Nat) (k25 : Nat) (k26 : Nat) (k27 : Nat) (k30 : Nat) (k31 : Nat) (k33 : Nat) (k36 : Nat) (k37 : Nat) (k38 : Nat) (k39 : Nat) (b : Int32) (pn : Int32) : CC l D ty ⟨"PinchedBillModel", "spoken", "(II)I"⟩ prog_11_method_60_code 3 (some .int) 2 47 0 0 [.ref h0, .int b, .int pn] [(h0, eO 9 [.ref k0, .ref k1, .ref k2, .ref k3, .int 0, .ref k5, .int 0, .int 0, .int 0, .int 0, .int 0, .int 0, .int 0, .int 0, .int 0, .int (-1), .int 0, .int 0, .int 0, .ref k19, .ref k20, .ref k21, .ref k22, .ref k23, .int 0, .ref k25, .ref k26, .ref k27, .int 0, .int 0, .ref k30, .ref k31, .int 0, .ref k33, .int 0, .int 0, .ref k36, .ref k37, .ref k38, .ref k39]), (k0, eI (ty 0) 1875 knF)] (QI D ty (fun (r : Int32) (w : va_W) => ∃ (w6 : Value) (w7 : Value) (w8 : Value) (w9 : Value) (w10 : Value) (w11 : Value) (w12 : Value) (w13 : Value) (w14 : Value) (w15 : Value) (w16 : Value) (w17 : Value) (w18 : Value) (w24 : Value) (w28 : Value) (w29 : Value) (w32 : Value) (w34 : Value) (w35 : Value), 0 = r ∧ w = [(h0, eO 9 [.ref k0, .ref k1, .ref k2, .ref k3, .int 1, .ref k5, w6, w7, w8, w9, w10, w11, w12, w13, w14, w15, w16, w17, w18, .ref k19, .ref k20, .ref k21, .ref k22, .ref k23, w24, .ref k25, .ref k26, .ref k27, w28, w29, .ref k30, .ref k31, w32, .ref k33, w34, w35, .ref k36, .ref k37, .ref k38, .ref k39])])) := by
  refine CC_of (by decide) ?_
  intro p e s m below meth c A C hP hD hS
  obtain ⟨⟨hx, hb, hml, hown, hts⟩, hr, hlocks, hnm, hK, hE, hA, hZ⟩ := id C
  refine startW [.ref h0, .int b, .int pn] 3 (nle rfl) (lv := [(0, .ref h0), (1, .int b), (2, .int pn)]) rfl (fun ls hl => ?_)
  refine lv_aload_n hx hb d_X9_spoken_0 rfl (lv_at hl 0 rfl) ?_
  refine lv_aload_n hx hb d_X9_spoken_1 rfl (lv_at hl 0 rfl) ?_
  refine lv_iload_n hx hb d_X9_spoken_2 rfl (lv_at hl 2 rfl) ?_
  refine lv_i2l (v := (pn).toInt64) hx hb d_X9_spoken_3 rfl ?_
  have ct_1 : Cut [(h0, eO 9 [.ref k0, .ref k1, .ref k2, .ref k3, .int 0, .ref k5, .int 0, .int 0, .int 0, .int 0, .int 0, .int 0, .int 0, .int 0, .int 0, .int (-1), .int 0, .int 0, .int 0, .ref k19, .ref k20, .ref k21, .ref k22, .ref k23, .int 0, .ref k25, .ref k26, .ref k27, .int 0, .int 0, .ref k30, .ref k31, .int 0, .ref k33, .int 0, .int 0, .ref k36, .ref k37, .ref k38, .ref k39]), (k0, eI (ty 0) 1875 knF)] [(h0, eO 9 [.ref k0, .ref k1, .ref k2, .ref k3, .int 0, .ref k5, .int 0, .int 0, .int 0, .int 0, .int 0, .int 0, .int 0, .int 0, .int 0, .int (-1), .int 0, .int 0, .int 0, .ref k19, .ref k20, .ref k21, .ref k22, .ref k23, .int 0, .ref k25, .ref k26, .ref k27, .int 0, .int 0, .ref k30, .ref k31, .int 0, .ref k33, .int 0, .int 0, .ref k36, .ref k37, .ref k38, .ref k39]), (k0, eI (ty 0) 1875 knF)] [] [0, 1] [] := ⟨rfl, rfl, rfl, rfl, by decide⟩
  refine cont_I C hP hD hS ct_1 (run_V (As := [.long (pn).toInt64]) (rest := [.ref h0]) C hP hD hS ct_1 (c_misP l D ty h0 k0 k1 k2 k3 k5 k19 k20 k21 k22 k23 k25 k26 k27 k30 k31 k33 k36 k37 k38 k39 (.int 0) (.int 0) (.int 0) (.int 0) (.int 0) (.int 0) (.int 0) (.int 0) (.int 0) (.int 0) (.int (-1)) (.int 0) (.int 0) (.int 0) (.int 0) (.int 0) (.int 0) (.int 0) (.int 0) (.int 0) knF ((pn).toInt64) KF_0) kV_PinchedBillModel_320 0 rfl rfl rfl rfl hl.1 rfl (nle rfl) d_X9_spoken_4 ⟨by decide, by decide, by decide, by decide⟩) (fun r_3 w_4 H locs hw_2 hP hD hS => ?_)
  obtain ⟨rfl, rfl⟩ := hw_2
  have hP : va_P D vwCl [(h0, eO 9 [.ref k0, .ref k1, .ref k2, .ref k3, .int 0, .ref k5, .int 0, .int 0, .int 0, .int 0, .int 0, .int 0, .int 0, .int 0, .int 0, .int (-1), .int 0, .int 0, .int 0, .ref k19, .ref k20, .ref k21, .ref k22, .ref k23, .int 0, .ref k25, .ref k26, .ref k27, .int 0, .int 0, .ref k30, .ref k31, .int 0, .ref k33, .int 0, .int 0, .ref k36, .ref k37, .ref k38, .ref k39]), (k0, eI (ty 0) 1875 knF)] H := hP
  have hD : va_D A [(h0, eO 9 [.ref k0, .ref k1, .ref k2, .ref k3, .int 0, .ref k5, .int 0, .int 0, .int 0, .int 0, .int 0, .int 0, .int 0, .int 0, .int 0, .int (-1), .int 0, .int 0, .int 0, .ref k19, .ref k20, .ref k21, .ref k22, .ref k23, .int 0, .ref k25, .ref k26, .ref k27, .int 0, .int 0, .ref k30, .ref k31, .int 0, .ref k33, .int 0, .int 0, .ref k36, .ref k37, .ref k38, .ref k39]), (k0, eI (ty 0) 1875 knF)] := hD
  refine b_if_neF C 14 d_X9_spoken_7 (by decide) (by decide) ?_
  refine lv_iconst (v := 1) hx hb d_X9_spoken_10 (by decide) ?_
  refine lv_goto (tgt := 28) hx hb d_X9_spoken_11 (by decide) ?_
  refine r_put (w := [(h0, eO 9 [.ref k0, .ref k1, .ref k2, .ref k3, .int 1, .ref k5, .int 0, .int 0, .int 0, .int 0, .int 0, .int 0, .int 0, .int 0, .int 0, .int (-1), .int 0, .int 0, .int 0, .ref k19, .ref k20, .ref k21, .ref k22, .ref k23, .int 0, .ref k25, .ref k26, .ref k27, .int 0, .int 0, .ref k30, .ref k31, .int 0, .ref k33, .int 0, .int 0, .ref k36, .ref k37, .ref k38, .ref k39]), (k0, eI (ty 0) 1875 knF)]) C hP hD hS 0 rfl rfl lay_X9 tok_X9 nmo_X9 4 (by decide) k_1549 rfl rfl rfl (nle rfl) rfl d_X9_spoken_28 (fun H locs hP hD hS => ?_)
  refine lv_aload_n hx hb d_X9_spoken_31 rfl (lv_at hl 0 rfl) ?_
  refine r_get (v := .int 1) C hP 0 rfl rfl lay_X9 4 (by decide) k_1549 rfl d_X9_spoken_32 ?_
  refine b_if_leF C 42 d_X9_spoken_35 (by decide) (by decide) ?_
  refine lv_iconst (v := 0) hx hb d_X9_spoken_38 (by decide) ?_
  refine lv_goto (tgt := 53) hx hb d_X9_spoken_39 (by decide) ?_
  exact ret_I (w := [(h0, eO 9 [.ref k0, .ref k1, .ref k2, .ref k3, .int 1, .ref k5, .int 0, .int 0, .int 0, .int 0, .int 0, .int 0, .int 0, .int 0, .int 0, .int (-1), .int 0, .int 0, .int 0, .ref k19, .ref k20, .ref k21, .ref k22, .ref k23, .int 0, .ref k25, .ref k26, .ref k27, .int 0, .int 0, .ref k30, .ref k31, .int 0, .ref k33, .int 0, .int 0, .ref k36, .ref k37, .ref k38, .ref k39])]) C hP hD hS [0] rfl rfl ⟨(.int 0), (.int 0), (.int 0), (.int 0), (.int 0), (.int 0), (.int 0), (.int 0), (.int 0), (.int (-1)), (.int 0), (.int 0), (.int 0), (.int 0), (.int 0), (.int 0), (.int 0), (.int 0), (.int 0), rfl, rfl⟩ (by decide) (by decide) d_X9_spoken_53
set_option maxHeartbeats 4000000 in
set_option maxRecDepth 100000 in
theorem m_share (l : Launch) (D : va_G) (ty : Nat → ClassId) (h0 : Nat) (k0 : Nat) (k1 : Nat) (k2 : Nat) (k3 : Nat) (k5 : Nat) (k19 : Nat) (k20 : Nat) (k21 : Nat) (k22 : Nat) (k23 : Nat) (k25 : Nat) (k26 : Nat) (k27 : Nat) (k30 : Nat) (k31 : Nat) (k33 : Nat) (k36 : Nat) (k37 : Nat) (k38 : Nat) (k39 : Nat) (b : Int32) (pn : Int32) (n : Int32) : CC l D ty ⟨"PinchedBillModel", "share", "(III)I"⟩ prog_11_method_108_code 4 (some .int) 2 47 0 0 [.ref h0, .int b, .int pn, .int n] [(h0, eO 9 [.ref k0, .ref k1, .ref k2, .ref k3, .int 0, .ref k5, .int 0, .int 0, .int 0, .int 0, .int 0, .int 0, .int 0, .int 0, .int 0, .int (-1), .int 0, .int 0, .int 0, .ref k19, .ref k20, .ref k21, .ref k22, .ref k23, .int 0, .ref k25, .ref k26, .ref k27, .int 0, .int 0, .ref k30, .ref k31, .int 0, .ref k33, .int 0, .int 0, .ref k36, .ref k37, .ref k38, .ref k39]), (k0, eI (ty 0) 1875 knF)] (QI D ty (fun (r : Int32) (w : va_W) => ∃ (w6 : Value) (w7 : Value) (w8 : Value) (w9 : Value) (w10 : Value) (w11 : Value) (w12 : Value) (w13 : Value) (w14 : Value) (w15 : Value) (w16 : Value) (w17 : Value) (w18 : Value) (w24 : Value) (w28 : Value) (w29 : Value) (w32 : Value) (w34 : Value) (w35 : Value), 0 = r ∧ w = [(h0, eO 9 [.ref k0, .ref k1, .ref k2, .ref k3, .int 1, .ref k5, w6, w7, w8, w9, w10, w11, w12, w13, w14, w15, w16, w17, w18, .ref k19, .ref k20, .ref k21, .ref k22, .ref k23, w24, .ref k25, .ref k26, .ref k27, w28, w29, .ref k30, .ref k31, w32, .ref k33, w34, w35, .ref k36, .ref k37, .ref k38, .ref k39])])) := by
  refine CC_of (by decide) ?_
  intro p e s m below meth c A C hP hD hS
  obtain ⟨⟨hx, hb, hml, hown, hts⟩, hr, hlocks, hnm, hK, hE, hA, hZ⟩ := id C
  refine startW [.ref h0, .int b, .int pn, .int n] 4 (nle rfl) (lv := [(0, .ref h0), (1, .int b), (2, .int pn), (3, .int n)]) rfl (fun ls hl => ?_)
  refine lv_aload_n hx hb d_X9_share_0 rfl (lv_at hl 0 rfl) ?_
  refine lv_aload_n hx hb d_X9_share_1 rfl (lv_at hl 0 rfl) ?_
  refine lv_iload_n hx hb d_X9_share_2 rfl (lv_at hl 2 rfl) ?_
  refine lv_i2l (v := (pn).toInt64) hx hb d_X9_share_3 rfl ?_
  have ct_1 : Cut [(h0, eO 9 [.ref k0, .ref k1, .ref k2, .ref k3, .int 0, .ref k5, .int 0, .int 0, .int 0, .int 0, .int 0, .int 0, .int 0, .int 0, .int 0, .int (-1), .int 0, .int 0, .int 0, .ref k19, .ref k20, .ref k21, .ref k22, .ref k23, .int 0, .ref k25, .ref k26, .ref k27, .int 0, .int 0, .ref k30, .ref k31, .int 0, .ref k33, .int 0, .int 0, .ref k36, .ref k37, .ref k38, .ref k39]), (k0, eI (ty 0) 1875 knF)] [(h0, eO 9 [.ref k0, .ref k1, .ref k2, .ref k3, .int 0, .ref k5, .int 0, .int 0, .int 0, .int 0, .int 0, .int 0, .int 0, .int 0, .int 0, .int (-1), .int 0, .int 0, .int 0, .ref k19, .ref k20, .ref k21, .ref k22, .ref k23, .int 0, .ref k25, .ref k26, .ref k27, .int 0, .int 0, .ref k30, .ref k31, .int 0, .ref k33, .int 0, .int 0, .ref k36, .ref k37, .ref k38, .ref k39]), (k0, eI (ty 0) 1875 knF)] [] [0, 1] [] := ⟨rfl, rfl, rfl, rfl, by decide⟩
  refine cont_I C hP hD hS ct_1 (run_V (As := [.long (pn).toInt64]) (rest := [.ref h0]) C hP hD hS ct_1 (c_misP l D ty h0 k0 k1 k2 k3 k5 k19 k20 k21 k22 k23 k25 k26 k27 k30 k31 k33 k36 k37 k38 k39 (.int 0) (.int 0) (.int 0) (.int 0) (.int 0) (.int 0) (.int 0) (.int 0) (.int 0) (.int 0) (.int (-1)) (.int 0) (.int 0) (.int 0) (.int 0) (.int 0) (.int 0) (.int 0) (.int 0) (.int 0) knF ((pn).toInt64) KF_0) kV_PinchedBillModel_320 0 rfl rfl rfl rfl hl.1 rfl (nle rfl) d_X9_share_4 ⟨by decide, by decide, by decide, by decide⟩) (fun r_3 w_4 H locs hw_2 hP hD hS => ?_)
  obtain ⟨rfl, rfl⟩ := hw_2
  have hP : va_P D vwCl [(h0, eO 9 [.ref k0, .ref k1, .ref k2, .ref k3, .int 0, .ref k5, .int 0, .int 0, .int 0, .int 0, .int 0, .int 0, .int 0, .int 0, .int 0, .int (-1), .int 0, .int 0, .int 0, .ref k19, .ref k20, .ref k21, .ref k22, .ref k23, .int 0, .ref k25, .ref k26, .ref k27, .int 0, .int 0, .ref k30, .ref k31, .int 0, .ref k33, .int 0, .int 0, .ref k36, .ref k37, .ref k38, .ref k39]), (k0, eI (ty 0) 1875 knF)] H := hP
  have hD : va_D A [(h0, eO 9 [.ref k0, .ref k1, .ref k2, .ref k3, .int 0, .ref k5, .int 0, .int 0, .int 0, .int 0, .int 0, .int 0, .int 0, .int 0, .int 0, .int (-1), .int 0, .int 0, .int 0, .ref k19, .ref k20, .ref k21, .ref k22, .ref k23, .int 0, .ref k25, .ref k26, .ref k27, .int 0, .int 0, .ref k30, .ref k31, .int 0, .ref k33, .int 0, .int 0, .ref k36, .ref k37, .ref k38, .ref k39]), (k0, eI (ty 0) 1875 knF)] := hD
  refine b_if_neF C 14 d_X9_share_7 (by decide) (by decide) ?_
  refine lv_iconst (v := 1) hx hb d_X9_share_10 (by decide) ?_
  refine lv_goto (tgt := 35) hx hb d_X9_share_11 (by decide) ?_
  refine r_put (w := [(h0, eO 9 [.ref k0, .ref k1, .ref k2, .ref k3, .int 1, .ref k5, .int 0, .int 0, .int 0, .int 0, .int 0, .int 0, .int 0, .int 0, .int 0, .int (-1), .int 0, .int 0, .int 0, .ref k19, .ref k20, .ref k21, .ref k22, .ref k23, .int 0, .ref k25, .ref k26, .ref k27, .int 0, .int 0, .ref k30, .ref k31, .int 0, .ref k33, .int 0, .int 0, .ref k36, .ref k37, .ref k38, .ref k39]), (k0, eI (ty 0) 1875 knF)]) C hP hD hS 0 rfl rfl lay_X9 tok_X9 nmo_X9 4 (by decide) k_1549 rfl rfl rfl (nle rfl) rfl d_X9_share_35 (fun H locs hP hD hS => ?_)
  refine lv_aload_n hx hb d_X9_share_38 rfl (lv_at hl 0 rfl) ?_
  refine r_get (v := .int 1) C hP 0 rfl rfl lay_X9 4 (by decide) k_1549 rfl d_X9_share_39 ?_
  refine b_if_leF C 47 d_X9_share_42 (by decide) (by decide) ?_
  refine lv_iconst (v := 0) hx hb d_X9_share_45 (by decide) ?_
  exact ret_I (w := [(h0, eO 9 [.ref k0, .ref k1, .ref k2, .ref k3, .int 1, .ref k5, .int 0, .int 0, .int 0, .int 0, .int 0, .int 0, .int 0, .int 0, .int 0, .int (-1), .int 0, .int 0, .int 0, .ref k19, .ref k20, .ref k21, .ref k22, .ref k23, .int 0, .ref k25, .ref k26, .ref k27, .int 0, .int 0, .ref k30, .ref k31, .int 0, .ref k33, .int 0, .int 0, .ref k36, .ref k37, .ref k38, .ref k39])]) C hP hD hS [0] rfl rfl ⟨(.int 0), (.int 0), (.int 0), (.int 0), (.int 0), (.int 0), (.int 0), (.int 0), (.int 0), (.int (-1)), (.int 0), (.int 0), (.int 0), (.int 0), (.int 0), (.int 0), (.int 0), (.int 0), (.int 0), rfl, rfl⟩ (by decide) (by decide) d_X9_share_46
set_option maxHeartbeats 4000000 in
set_option maxRecDepth 100000 in
theorem c_mwm0 (l : Launch) (D : va_G) (ty : Nat → ClassId) (h0 : Nat) (k0 : Nat) (k1 : Nat) (k2 : Nat) (k3 : Nat) (k5 : Nat) (k19 : Nat) (k20 : Nat) (k21 : Nat) (k22 : Nat) (k23 : Nat) (k25 : Nat) (k26 : Nat) (k27 : Nat) (k30 : Nat) (k31 : Nat) (k33 : Nat) (k36 : Nat) (k37 : Nat) (k38 : Nat) (k39 : Nat) (u4 : Value) (u6 : Value) (u7 : Value) (u8 : Value) (u9 : Value) (u10 : Value) (u11 : Value) (u12 : Value) (u13 : Value) (u14 : Value) (u15 : Value) (u16 : Value) (u17 : Value) (u18 : Value) (u24 : Value) (u28 : Value) (u29 : Value) (u32 : Value) (u34 : Value) (u35 : Value) (kf : Nat → Int32) (v : Int64) (hkf : KF kf) : CC l D ty ⟨"PinchedBillModel", "whyMove", "(JZ)I"⟩ prog_11_method_64_code 4 (some .int) 2 47 0 0 [.ref h0, .long v, .int 0] [(h0, eO 9 [.ref k0, .ref k1, .ref k2, .ref k3, u4, .ref k5, u6, u7, u8, u9, u10, u11, u12, u13, u14, u15, u16, u17, u18, .ref k19, .ref k20, .ref k21, .ref k22, .ref k23, u24, .ref k25, .ref k26, .ref k27, u28, u29, .ref k30, .ref k31, u32, .ref k33, u34, u35, .ref k36, .ref k37, .ref k38, .ref k39]), (k0, eI (ty 0) 1875 kf)] (QI D ty (fun (r : Int32) (w : va_W) => 1 = r ∧ w = [(h0, eO 9 [.ref k0, .ref k1, .ref k2, .ref k3, u4, .ref k5, u6, u7, u8, u9, u10, u11, u12, u13, u14, u15, u16, u17, u18, .ref k19, .ref k20, .ref k21, .ref k22, .ref k23, u24, .ref k25, .ref k26, .ref k27, u28, u29, .ref k30, .ref k31, u32, .ref k33, u34, u35, .ref k36, .ref k37, .ref k38, .ref k39]), (k0, eI (ty 0) 1875 kf)])) := by
  refine CC_of (by decide) ?_
  intro p e s m below meth c A C hP hD hS
  obtain ⟨⟨hx, hb, hml, hown, hts⟩, hr, hlocks, hnm, hK, hE, hA, hZ⟩ := id C
  refine startW [.ref h0, .long v, .int 0] 4 (nle rfl) (lv := [(0, .ref h0), (1, .long v), (3, .int 0)]) rfl (fun ls hl => ?_)
  refine lv_aload_n hx hb d_X9_whyMove_0 rfl (lv_at hl 0 rfl) ?_
  refine lv_lload_n hx hb d_X9_whyMove_1 rfl (lv_at hl 1 rfl) ?_
  have ct_1 : Cut [(h0, eO 9 [.ref k0, .ref k1, .ref k2, .ref k3, u4, .ref k5, u6, u7, u8, u9, u10, u11, u12, u13, u14, u15, u16, u17, u18, .ref k19, .ref k20, .ref k21, .ref k22, .ref k23, u24, .ref k25, .ref k26, .ref k27, u28, u29, .ref k30, .ref k31, u32, .ref k33, u34, u35, .ref k36, .ref k37, .ref k38, .ref k39]), (k0, eI (ty 0) 1875 kf)] [(h0, eO 9 [.ref k0, .ref k1, .ref k2, .ref k3, u4, .ref k5, u6, u7, u8, u9, u10, u11, u12, u13, u14, u15, u16, u17, u18, .ref k19, .ref k20, .ref k21, .ref k22, .ref k23, u24, .ref k25, .ref k26, .ref k27, u28, u29, .ref k30, .ref k31, u32, .ref k33, u34, u35, .ref k36, .ref k37, .ref k38, .ref k39]), (k0, eI (ty 0) 1875 kf)] [] [0, 1] [] := ⟨rfl, rfl, rfl, rfl, by decide⟩
  refine cont_I C hP hD hS ct_1 (run_V (As := [.long v]) (rest := []) C hP hD hS ct_1 (c_misP l D ty h0 k0 k1 k2 k3 k5 k19 k20 k21 k22 k23 k25 k26 k27 k30 k31 k33 k36 k37 k38 k39 u4 u6 u7 u8 u9 u10 u11 u12 u13 u14 u15 u16 u17 u18 u24 u28 u29 u32 u34 u35 kf v hkf) kV_PinchedBillModel_320 0 rfl rfl rfl rfl hl.1 rfl (nle rfl) d_X9_whyMove_2 ⟨by decide, by decide, by decide, by decide⟩) (fun r_3 w_4 H locs hw_2 hP hD hS => ?_)
  obtain ⟨rfl, rfl⟩ := hw_2
  have hP : va_P D vwCl [(h0, eO 9 [.ref k0, .ref k1, .ref k2, .ref k3, u4, .ref k5, u6, u7, u8, u9, u10, u11, u12, u13, u14, u15, u16, u17, u18, .ref k19, .ref k20, .ref k21, .ref k22, .ref k23, u24, .ref k25, .ref k26, .ref k27, u28, u29, .ref k30, .ref k31, u32, .ref k33, u34, u35, .ref k36, .ref k37, .ref k38, .ref k39]), (k0, eI (ty 0) 1875 kf)] H := hP
  have hD : va_D A [(h0, eO 9 [.ref k0, .ref k1, .ref k2, .ref k3, u4, .ref k5, u6, u7, u8, u9, u10, u11, u12, u13, u14, u15, u16, u17, u18, .ref k19, .ref k20, .ref k21, .ref k22, .ref k23, u24, .ref k25, .ref k26, .ref k27, u28, u29, .ref k30, .ref k31, u32, .ref k33, u34, u35, .ref k36, .ref k37, .ref k38, .ref k39]), (k0, eI (ty 0) 1875 kf)] := hD
  refine b_if_neF C 12 d_X9_whyMove_5 (by decide) (by decide) ?_
  refine lv_iconst (v := 1) hx hb d_X9_whyMove_8 (by decide) ?_
  refine lv_goto (tgt := 33) hx hb d_X9_whyMove_9 (by decide) ?_
  exact ret_I (w := [(h0, eO 9 [.ref k0, .ref k1, .ref k2, .ref k3, u4, .ref k5, u6, u7, u8, u9, u10, u11, u12, u13, u14, u15, u16, u17, u18, .ref k19, .ref k20, .ref k21, .ref k22, .ref k23, u24, .ref k25, .ref k26, .ref k27, u28, u29, .ref k30, .ref k31, u32, .ref k33, u34, u35, .ref k36, .ref k37, .ref k38, .ref k39]), (k0, eI (ty 0) 1875 kf)]) C hP hD hS [0, 1] rfl rfl ⟨rfl, rfl⟩ (by decide) (by decide) d_X9_whyMove_33
set_option maxHeartbeats 4000000 in
set_option maxRecDepth 100000 in
theorem c_mwm1 (l : Launch) (D : va_G) (ty : Nat → ClassId) (h0 : Nat) (k0 : Nat) (k1 : Nat) (k2 : Nat) (k3 : Nat) (k5 : Nat) (k19 : Nat) (k20 : Nat) (k21 : Nat) (k22 : Nat) (k23 : Nat) (k25 : Nat) (k26 : Nat) (k27 : Nat) (k30 : Nat) (k31 : Nat) (k33 : Nat) (k36 : Nat) (k37 : Nat) (k38 : Nat) (k39 : Nat) (u4 : Value) (u6 : Value) (u7 : Value) (u8 : Value) (u9 : Value) (u10 : Value) (u11 : Value) (u12 : Value) (u13 : Value) (u14 : Value) (u15 : Value) (u16 : Value) (u17 : Value) (u18 : Value) (u24 : Value) (u28 : Value) (u29 : Value) (u32 : Value) (u34 : Value) (u35 : Value) (kf : Nat → Int32) (v : Int64) (hkf : KF kf) : CC l D ty ⟨"PinchedBillModel", "whyMove", "(JZ)I"⟩ prog_11_method_64_code 4 (some .int) 2 47 0 0 [.ref h0, .long v, .int 1] [(h0, eO 9 [.ref k0, .ref k1, .ref k2, .ref k3, u4, .ref k5, u6, u7, u8, u9, u10, u11, u12, u13, u14, u15, u16, u17, u18, .ref k19, .ref k20, .ref k21, .ref k22, .ref k23, u24, .ref k25, .ref k26, .ref k27, u28, u29, .ref k30, .ref k31, u32, .ref k33, u34, u35, .ref k36, .ref k37, .ref k38, .ref k39]), (k0, eI (ty 0) 1875 kf)] (QI D ty (fun (r : Int32) (w : va_W) => 1 = r ∧ w = [(h0, eO 9 [.ref k0, .ref k1, .ref k2, .ref k3, u4, .ref k5, u6, u7, u8, u9, u10, u11, u12, u13, u14, u15, u16, u17, u18, .ref k19, .ref k20, .ref k21, .ref k22, .ref k23, u24, .ref k25, .ref k26, .ref k27, u28, u29, .ref k30, .ref k31, u32, .ref k33, u34, u35, .ref k36, .ref k37, .ref k38, .ref k39]), (k0, eI (ty 0) 1875 kf)])) := by
  refine CC_of (by decide) ?_
  intro p e s m below meth c A C hP hD hS
  obtain ⟨⟨hx, hb, hml, hown, hts⟩, hr, hlocks, hnm, hK, hE, hA, hZ⟩ := id C
  refine startW [.ref h0, .long v, .int 1] 4 (nle rfl) (lv := [(0, .ref h0), (1, .long v), (3, .int 1)]) rfl (fun ls hl => ?_)
  refine lv_aload_n hx hb d_X9_whyMove_0 rfl (lv_at hl 0 rfl) ?_
  refine lv_lload_n hx hb d_X9_whyMove_1 rfl (lv_at hl 1 rfl) ?_
  have ct_1 : Cut [(h0, eO 9 [.ref k0, .ref k1, .ref k2, .ref k3, u4, .ref k5, u6, u7, u8, u9, u10, u11, u12, u13, u14, u15, u16, u17, u18, .ref k19, .ref k20, .ref k21, .ref k22, .ref k23, u24, .ref k25, .ref k26, .ref k27, u28, u29, .ref k30, .ref k31, u32, .ref k33, u34, u35, .ref k36, .ref k37, .ref k38, .ref k39]), (k0, eI (ty 0) 1875 kf)] [(h0, eO 9 [.ref k0, .ref k1, .ref k2, .ref k3, u4, .ref k5, u6, u7, u8, u9, u10, u11, u12, u13, u14, u15, u16, u17, u18, .ref k19, .ref k20, .ref k21, .ref k22, .ref k23, u24, .ref k25, .ref k26, .ref k27, u28, u29, .ref k30, .ref k31, u32, .ref k33, u34, u35, .ref k36, .ref k37, .ref k38, .ref k39]), (k0, eI (ty 0) 1875 kf)] [] [0, 1] [] := ⟨rfl, rfl, rfl, rfl, by decide⟩
  refine cont_I C hP hD hS ct_1 (run_V (As := [.long v]) (rest := []) C hP hD hS ct_1 (c_misP l D ty h0 k0 k1 k2 k3 k5 k19 k20 k21 k22 k23 k25 k26 k27 k30 k31 k33 k36 k37 k38 k39 u4 u6 u7 u8 u9 u10 u11 u12 u13 u14 u15 u16 u17 u18 u24 u28 u29 u32 u34 u35 kf v hkf) kV_PinchedBillModel_320 0 rfl rfl rfl rfl hl.1 rfl (nle rfl) d_X9_whyMove_2 ⟨by decide, by decide, by decide, by decide⟩) (fun r_3 w_4 H locs hw_2 hP hD hS => ?_)
  obtain ⟨rfl, rfl⟩ := hw_2
  have hP : va_P D vwCl [(h0, eO 9 [.ref k0, .ref k1, .ref k2, .ref k3, u4, .ref k5, u6, u7, u8, u9, u10, u11, u12, u13, u14, u15, u16, u17, u18, .ref k19, .ref k20, .ref k21, .ref k22, .ref k23, u24, .ref k25, .ref k26, .ref k27, u28, u29, .ref k30, .ref k31, u32, .ref k33, u34, u35, .ref k36, .ref k37, .ref k38, .ref k39]), (k0, eI (ty 0) 1875 kf)] H := hP
  have hD : va_D A [(h0, eO 9 [.ref k0, .ref k1, .ref k2, .ref k3, u4, .ref k5, u6, u7, u8, u9, u10, u11, u12, u13, u14, u15, u16, u17, u18, .ref k19, .ref k20, .ref k21, .ref k22, .ref k23, u24, .ref k25, .ref k26, .ref k27, u28, u29, .ref k30, .ref k31, u32, .ref k33, u34, u35, .ref k36, .ref k37, .ref k38, .ref k39]), (k0, eI (ty 0) 1875 kf)] := hD
  refine b_if_neF C 12 d_X9_whyMove_5 (by decide) (by decide) ?_
  refine lv_iconst (v := 1) hx hb d_X9_whyMove_8 (by decide) ?_
  refine lv_goto (tgt := 33) hx hb d_X9_whyMove_9 (by decide) ?_
  exact ret_I (w := [(h0, eO 9 [.ref k0, .ref k1, .ref k2, .ref k3, u4, .ref k5, u6, u7, u8, u9, u10, u11, u12, u13, u14, u15, u16, u17, u18, .ref k19, .ref k20, .ref k21, .ref k22, .ref k23, u24, .ref k25, .ref k26, .ref k27, u28, u29, .ref k30, .ref k31, u32, .ref k33, u34, u35, .ref k36, .ref k37, .ref k38, .ref k39]), (k0, eI (ty 0) 1875 kf)]) C hP hD hS [0, 1] rfl rfl ⟨rfl, rfl⟩ (by decide) (by decide) d_X9_whyMove_33
set_option maxHeartbeats 4000000 in
set_option maxRecDepth 100000 in
theorem c_mmov0 (l : Launch) (D : va_G) (ty : Nat → ClassId) (h0 : Nat) (k0 : Nat) (k1 : Nat) (k2 : Nat) (k3 : Nat) (k5 : Nat) (k19 : Nat) (k20 : Nat) (k21 : Nat) (k22 : Nat) (k23 : Nat) (k25 : Nat) (k26 : Nat) (k27 : Nat) (k30 : Nat) (k31 : Nat) (k33 : Nat) (k36 : Nat) (k37 : Nat) (k38 : Nat) (k39 : Nat) (u4 : Value) (u6 : Value) (u7 : Value) (u8 : Value) (u9 : Value) (u10 : Value) (u11 : Value) (u12 : Value) (u13 : Value) (u14 : Value) (u15 : Value) (u16 : Value) (u17 : Value) (u18 : Value) (u24 : Value) (u28 : Value) (u29 : Value) (u32 : Value) (u34 : Value) (u35 : Value) (kf : Nat → Int32) (pn : Int32) (hkf : KF kf) : CC l D ty ⟨"PinchedBillModel", "moves", "(IZ)I"⟩ prog_11_method_68_code 4 (some .int) 3 70 0 0 [.ref h0, .int pn, .int 0] [(h0, eO 9 [.ref k0, .ref k1, .ref k2, .ref k3, u4, .ref k5, u6, u7, u8, u9, u10, u11, u12, u13, u14, u15, u16, u17, u18, .ref k19, .ref k20, .ref k21, .ref k22, .ref k23, u24, .ref k25, .ref k26, .ref k27, u28, u29, .ref k30, .ref k31, u32, .ref k33, u34, u35, .ref k36, .ref k37, .ref k38, .ref k39]), (k0, eI (ty 0) 1875 kf)] (QI D ty (fun (r : Int32) (w : va_W) => (-1) = r ∧ w = [])) := by
  refine CC_of (by decide) ?_
  intro p e s m below meth c A C hP hD hS
  obtain ⟨⟨hx, hb, hml, hown, hts⟩, hr, hlocks, hnm, hK, hE, hA, hZ⟩ := id C
  refine startW [.ref h0, .int pn, .int 0] 4 (nle rfl) (lv := [(0, .ref h0), (1, .int pn), (2, .int 0)]) rfl (fun ls hl => ?_)
  refine lv_aload_n hx hb d_X9_moves_0 rfl (lv_at hl 0 rfl) ?_
  refine lv_iconst (v := 0) hx hb d_X9_moves_1 (by decide) ?_
  refine r_put (w := [(h0, eO 9 [.ref k0, .ref k1, .ref k2, .ref k3, .int 0, .ref k5, u6, u7, u8, u9, u10, u11, u12, u13, u14, u15, u16, u17, u18, .ref k19, .ref k20, .ref k21, .ref k22, .ref k23, u24, .ref k25, .ref k26, .ref k27, u28, u29, .ref k30, .ref k31, u32, .ref k33, u34, u35, .ref k36, .ref k37, .ref k38, .ref k39]), (k0, eI (ty 0) 1875 kf)]) C hP hD hS 0 rfl rfl lay_X9 tok_X9 nmo_X9 4 (by decide) k_1549 rfl rfl rfl (nle rfl) rfl d_X9_moves_2 (fun H locs hP hD hS => ?_)
  refine lv_aload_n hx hb d_X9_moves_5 rfl (lv_at hl 0 rfl) ?_
  refine lv_iload_n hx hb d_X9_moves_6 rfl (lv_at hl 1 rfl) ?_
  refine lv_i2l (v := (pn).toInt64) hx hb d_X9_moves_7 rfl ?_
  refine lv_iload_n hx hb d_X9_moves_8 rfl (lv_at hl 2 rfl) ?_
  have ct_1 : Cut [(h0, eO 9 [.ref k0, .ref k1, .ref k2, .ref k3, .int 0, .ref k5, u6, u7, u8, u9, u10, u11, u12, u13, u14, u15, u16, u17, u18, .ref k19, .ref k20, .ref k21, .ref k22, .ref k23, u24, .ref k25, .ref k26, .ref k27, u28, u29, .ref k30, .ref k31, u32, .ref k33, u34, u35, .ref k36, .ref k37, .ref k38, .ref k39]), (k0, eI (ty 0) 1875 kf)] [(h0, eO 9 [.ref k0, .ref k1, .ref k2, .ref k3, .int 0, .ref k5, u6, u7, u8, u9, u10, u11, u12, u13, u14, u15, u16, u17, u18, .ref k19, .ref k20, .ref k21, .ref k22, .ref k23, u24, .ref k25, .ref k26, .ref k27, u28, u29, .ref k30, .ref k31, u32, .ref k33, u34, u35, .ref k36, .ref k37, .ref k38, .ref k39]), (k0, eI (ty 0) 1875 kf)] [] [0, 1] [] := ⟨rfl, rfl, rfl, rfl, by decide⟩
  refine cont_I C hP hD hS ct_1 (run_V (As := [.long (pn).toInt64, .int 0]) (rest := []) C hP hD hS ct_1 (c_mwm0 l D ty h0 k0 k1 k2 k3 k5 k19 k20 k21 k22 k23 k25 k26 k27 k30 k31 k33 k36 k37 k38 k39 (.int 0) u6 u7 u8 u9 u10 u11 u12 u13 u14 u15 u16 u17 u18 u24 u28 u29 u32 u34 u35 kf ((pn).toInt64) hkf) kV_PinchedBillModel_339 0 rfl rfl rfl rfl hl.1 rfl (nle rfl) d_X9_moves_9 ⟨by decide, by decide, by decide, by decide⟩) (fun r_3 w_4 H locs hw_2 hP hD hS => ?_)
  obtain ⟨rfl, rfl⟩ := hw_2
  have hP : va_P D vwCl [(h0, eO 9 [.ref k0, .ref k1, .ref k2, .ref k3, .int 0, .ref k5, u6, u7, u8, u9, u10, u11, u12, u13, u14, u15, u16, u17, u18, .ref k19, .ref k20, .ref k21, .ref k22, .ref k23, u24, .ref k25, .ref k26, .ref k27, u28, u29, .ref k30, .ref k31, u32, .ref k33, u34, u35, .ref k36, .ref k37, .ref k38, .ref k39]), (k0, eI (ty 0) 1875 kf)] H := hP
  have hD : va_D A [(h0, eO 9 [.ref k0, .ref k1, .ref k2, .ref k3, .int 0, .ref k5, u6, u7, u8, u9, u10, u11, u12, u13, u14, u15, u16, u17, u18, .ref k19, .ref k20, .ref k21, .ref k22, .ref k23, u24, .ref k25, .ref k26, .ref k27, u28, u29, .ref k30, .ref k31, u32, .ref k33, u34, u35, .ref k36, .ref k37, .ref k38, .ref k39]), (k0, eI (ty 0) 1875 kf)] := hD
  refine lv_istore_n (lv' := [(3, .int 1), (0, .ref h0), (1, .int pn), (2, .int 0)]) hx hb d_X9_moves_12 rfl hl (by decide) rfl (fun ls hl => ?_)
  refine lv_iload_n hx hb d_X9_moves_13 rfl (lv_at hl 0 rfl) ?_
  refine b_if_eqF C 20 d_X9_moves_14 (by decide) (by decide) ?_
  refine lv_iload_n hx hb d_X9_moves_17 rfl (lv_at hl 0 rfl) ?_
  refine r_ineg (z := (-1)) C d_X9_moves_18 (by decide) ?_
  exact ret_I (w := []) C hP hD hS [] rfl rfl ⟨rfl, rfl⟩ (by decide) (by decide) d_X9_moves_19
set_option maxHeartbeats 4000000 in
set_option maxRecDepth 100000 in
theorem c_mmov1 (l : Launch) (D : va_G) (ty : Nat → ClassId) (h0 : Nat) (k0 : Nat) (k1 : Nat) (k2 : Nat) (k3 : Nat) (k5 : Nat) (k19 : Nat) (k20 : Nat) (k21 : Nat) (k22 : Nat) (k23 : Nat) (k25 : Nat) (k26 : Nat) (k27 : Nat) (k30 : Nat) (k31 : Nat) (k33 : Nat) (k36 : Nat) (k37 : Nat) (k38 : Nat) (k39 : Nat) (u4 : Value) (u6 : Value) (u7 : Value) (u8 : Value) (u9 : Value) (u10 : Value) (u11 : Value) (u12 : Value) (u13 : Value) (u14 : Value) (u15 : Value) (u16 : Value) (u17 : Value) (u18 : Value) (u24 : Value) (u28 : Value) (u29 : Value) (u32 : Value) (u34 : Value) (u35 : Value) (kf : Nat → Int32) (pn : Int32) (hkf : KF kf) : CC l D ty ⟨"PinchedBillModel", "moves", "(IZ)I"⟩ prog_11_method_68_code 4 (some .int) 3 70 0 0 [.ref h0, .int pn, .int 1] [(h0, eO 9 [.ref k0, .ref k1, .ref k2, .ref k3, u4, .ref k5, u6, u7, u8, u9, u10, u11, u12, u13, u14, u15, u16, u17, u18, .ref k19, .ref k20, .ref k21, .ref k22, .ref k23, u24, .ref k25, .ref k26, .ref k27, u28, u29, .ref k30, .ref k31, u32, .ref k33, u34, u35, .ref k36, .ref k37, .ref k38, .ref k39]), (k0, eI (ty 0) 1875 kf)] (QI D ty (fun (r : Int32) (w : va_W) => (-1) = r ∧ w = [])) := by
  refine CC_of (by decide) ?_
  intro p e s m below meth c A C hP hD hS
  obtain ⟨⟨hx, hb, hml, hown, hts⟩, hr, hlocks, hnm, hK, hE, hA, hZ⟩ := id C
  refine startW [.ref h0, .int pn, .int 1] 4 (nle rfl) (lv := [(0, .ref h0), (1, .int pn), (2, .int 1)]) rfl (fun ls hl => ?_)
  refine lv_aload_n hx hb d_X9_moves_0 rfl (lv_at hl 0 rfl) ?_
  refine lv_iconst (v := 0) hx hb d_X9_moves_1 (by decide) ?_
  refine r_put (w := [(h0, eO 9 [.ref k0, .ref k1, .ref k2, .ref k3, .int 0, .ref k5, u6, u7, u8, u9, u10, u11, u12, u13, u14, u15, u16, u17, u18, .ref k19, .ref k20, .ref k21, .ref k22, .ref k23, u24, .ref k25, .ref k26, .ref k27, u28, u29, .ref k30, .ref k31, u32, .ref k33, u34, u35, .ref k36, .ref k37, .ref k38, .ref k39]), (k0, eI (ty 0) 1875 kf)]) C hP hD hS 0 rfl rfl lay_X9 tok_X9 nmo_X9 4 (by decide) k_1549 rfl rfl rfl (nle rfl) rfl d_X9_moves_2 (fun H locs hP hD hS => ?_)
  refine lv_aload_n hx hb d_X9_moves_5 rfl (lv_at hl 0 rfl) ?_
  refine lv_iload_n hx hb d_X9_moves_6 rfl (lv_at hl 1 rfl) ?_
  refine lv_i2l (v := (pn).toInt64) hx hb d_X9_moves_7 rfl ?_
  refine lv_iload_n hx hb d_X9_moves_8 rfl (lv_at hl 2 rfl) ?_
  have ct_1 : Cut [(h0, eO 9 [.ref k0, .ref k1, .ref k2, .ref k3, .int 0, .ref k5, u6, u7, u8, u9, u10, u11, u12, u13, u14, u15, u16, u17, u18, .ref k19, .ref k20, .ref k21, .ref k22, .ref k23, u24, .ref k25, .ref k26, .ref k27, u28, u29, .ref k30, .ref k31, u32, .ref k33, u34, u35, .ref k36, .ref k37, .ref k38, .ref k39]), (k0, eI (ty 0) 1875 kf)] [(h0, eO 9 [.ref k0, .ref k1, .ref k2, .ref k3, .int 0, .ref k5, u6, u7, u8, u9, u10, u11, u12, u13, u14, u15, u16, u17, u18, .ref k19, .ref k20, .ref k21, .ref k22, .ref k23, u24, .ref k25, .ref k26, .ref k27, u28, u29, .ref k30, .ref k31, u32, .ref k33, u34, u35, .ref k36, .ref k37, .ref k38, .ref k39]), (k0, eI (ty 0) 1875 kf)] [] [0, 1] [] := ⟨rfl, rfl, rfl, rfl, by decide⟩
  refine cont_I C hP hD hS ct_1 (run_V (As := [.long (pn).toInt64, .int 1]) (rest := []) C hP hD hS ct_1 (c_mwm1 l D ty h0 k0 k1 k2 k3 k5 k19 k20 k21 k22 k23 k25 k26 k27 k30 k31 k33 k36 k37 k38 k39 (.int 0) u6 u7 u8 u9 u10 u11 u12 u13 u14 u15 u16 u17 u18 u24 u28 u29 u32 u34 u35 kf ((pn).toInt64) hkf) kV_PinchedBillModel_339 0 rfl rfl rfl rfl hl.1 rfl (nle rfl) d_X9_moves_9 ⟨by decide, by decide, by decide, by decide⟩) (fun r_3 w_4 H locs hw_2 hP hD hS => ?_)
  obtain ⟨rfl, rfl⟩ := hw_2
  have hP : va_P D vwCl [(h0, eO 9 [.ref k0, .ref k1, .ref k2, .ref k3, .int 0, .ref k5, u6, u7, u8, u9, u10, u11, u12, u13, u14, u15, u16, u17, u18, .ref k19, .ref k20, .ref k21, .ref k22, .ref k23, u24, .ref k25, .ref k26, .ref k27, u28, u29, .ref k30, .ref k31, u32, .ref k33, u34, u35, .ref k36, .ref k37, .ref k38, .ref k39]), (k0, eI (ty 0) 1875 kf)] H := hP
  have hD : va_D A [(h0, eO 9 [.ref k0, .ref k1, .ref k2, .ref k3, .int 0, .ref k5, u6, u7, u8, u9, u10, u11, u12, u13, u14, u15, u16, u17, u18, .ref k19, .ref k20, .ref k21, .ref k22, .ref k23, u24, .ref k25, .ref k26, .ref k27, u28, u29, .ref k30, .ref k31, u32, .ref k33, u34, u35, .ref k36, .ref k37, .ref k38, .ref k39]), (k0, eI (ty 0) 1875 kf)] := hD
  refine lv_istore_n (lv' := [(3, .int 1), (0, .ref h0), (1, .int pn), (2, .int 1)]) hx hb d_X9_moves_12 rfl hl (by decide) rfl (fun ls hl => ?_)
  refine lv_iload_n hx hb d_X9_moves_13 rfl (lv_at hl 0 rfl) ?_
  refine b_if_eqF C 20 d_X9_moves_14 (by decide) (by decide) ?_
  refine lv_iload_n hx hb d_X9_moves_17 rfl (lv_at hl 0 rfl) ?_
  refine r_ineg (z := (-1)) C d_X9_moves_18 (by decide) ?_
  exact ret_I (w := []) C hP hD hS [] rfl rfl ⟨rfl, rfl⟩ (by decide) (by decide) d_X9_moves_19
set_option maxHeartbeats 4000000 in
set_option maxRecDepth 100000 in
theorem m_send (l : Launch) (D : va_G) (ty : Nat → ClassId) (h0 : Nat) (k0 : Nat) (k1 : Nat) (k2 : Nat) (k3 : Nat) (k5 : Nat) (k19 : Nat) (k20 : Nat) (k21 : Nat) (k22 : Nat) (k23 : Nat) (k25 : Nat) (k26 : Nat) (k27 : Nat) (k30 : Nat) (k31 : Nat) (k33 : Nat) (k36 : Nat) (k37 : Nat) (k38 : Nat) (k39 : Nat) (pn : Int32) : CC l D ty ⟨"PinchedBillModel", "send", "(I)I"⟩ prog_11_method_69_code 2 (some .int) 4 93 0 0 [.ref h0, .int pn] [(h0, eO 9 [.ref k0, .ref k1, .ref k2, .ref k3, .int 0, .ref k5, .int 0, .int 0, .int 0, .int 0, .int 0, .int 0, .int 0, .int 0, .int 0, .int (-1), .int 0, .int 0, .int 0, .ref k19, .ref k20, .ref k21, .ref k22, .ref k23, .int 0, .ref k25, .ref k26, .ref k27, .int 0, .int 0, .ref k30, .ref k31, .int 0, .ref k33, .int 0, .int 0, .ref k36, .ref k37, .ref k38, .ref k39]), (k0, eI (ty 0) 1875 knF)] (QI D ty (fun (r : Int32) (w : va_W) => (-1) = r ∧ w = [])) := by
  refine CC_of (by decide) ?_
  intro p e s m below meth c A C hP hD hS
  obtain ⟨⟨hx, hb, hml, hown, hts⟩, hr, hlocks, hnm, hK, hE, hA, hZ⟩ := id C
  refine startW [.ref h0, .int pn] 2 (nle rfl) (lv := [(0, .ref h0), (1, .int pn)]) rfl (fun ls hl => ?_)
  refine lv_aload_n hx hb d_X9_send_0 rfl (lv_at hl 0 rfl) ?_
  refine lv_iload_n hx hb d_X9_send_1 rfl (lv_at hl 1 rfl) ?_
  refine lv_iconst (v := 1) hx hb d_X9_send_2 (by decide) ?_
  have ct_1 : Cut [(h0, eO 9 [.ref k0, .ref k1, .ref k2, .ref k3, .int 0, .ref k5, .int 0, .int 0, .int 0, .int 0, .int 0, .int 0, .int 0, .int 0, .int 0, .int (-1), .int 0, .int 0, .int 0, .ref k19, .ref k20, .ref k21, .ref k22, .ref k23, .int 0, .ref k25, .ref k26, .ref k27, .int 0, .int 0, .ref k30, .ref k31, .int 0, .ref k33, .int 0, .int 0, .ref k36, .ref k37, .ref k38, .ref k39]), (k0, eI (ty 0) 1875 knF)] [(h0, eO 9 [.ref k0, .ref k1, .ref k2, .ref k3, .int 0, .ref k5, .int 0, .int 0, .int 0, .int 0, .int 0, .int 0, .int 0, .int 0, .int 0, .int (-1), .int 0, .int 0, .int 0, .ref k19, .ref k20, .ref k21, .ref k22, .ref k23, .int 0, .ref k25, .ref k26, .ref k27, .int 0, .int 0, .ref k30, .ref k31, .int 0, .ref k33, .int 0, .int 0, .ref k36, .ref k37, .ref k38, .ref k39]), (k0, eI (ty 0) 1875 knF)] [] [0, 1] [] := ⟨rfl, rfl, rfl, rfl, by decide⟩
  refine cont_I C hP hD hS ct_1 (run_V (As := [.int pn, .int 1]) (rest := []) C hP hD hS ct_1 (c_mmov1 l D ty h0 k0 k1 k2 k3 k5 k19 k20 k21 k22 k23 k25 k26 k27 k30 k31 k33 k36 k37 k38 k39 (.int 0) (.int 0) (.int 0) (.int 0) (.int 0) (.int 0) (.int 0) (.int 0) (.int 0) (.int 0) (.int (-1)) (.int 0) (.int 0) (.int 0) (.int 0) (.int 0) (.int 0) (.int 0) (.int 0) (.int 0) knF pn KF_0) kV_PinchedBillModel_346 0 rfl rfl rfl rfl hl.1 rfl (nle rfl) d_X9_send_3 ⟨by decide, by decide, by decide, by decide⟩) (fun r_3 w_4 H locs hw_2 hP hD hS => ?_)
  obtain ⟨rfl, rfl⟩ := hw_2
  have hP : va_P D vwCl [] H := hP
  have hD : va_D A [] := hD
  exact ret_I (w := []) C hP hD hS [] rfl rfl ⟨rfl, rfl⟩ (by decide) (by decide) d_X9_send_6
set_option maxHeartbeats 4000000 in
set_option maxRecDepth 100000 in
theorem m_call (l : Launch) (D : va_G) (ty : Nat → ClassId) (h0 : Nat) (k0 : Nat) (k1 : Nat) (k2 : Nat) (k3 : Nat) (k5 : Nat) (k19 : Nat) (k20 : Nat) (k21 : Nat) (k22 : Nat) (k23 : Nat) (k25 : Nat) (k26 : Nat) (k27 : Nat) (k30 : Nat) (k31 : Nat) (k33 : Nat) (k36 : Nat) (k37 : Nat) (k38 : Nat) (k39 : Nat) (pn : Int32) : CC l D ty ⟨"PinchedBillModel", "call", "(I)I"⟩ prog_11_method_70_code 2 (some .int) 4 93 0 0 [.ref h0, .int pn] [(h0, eO 9 [.ref k0, .ref k1, .ref k2, .ref k3, .int 0, .ref k5, .int 0, .int 0, .int 0, .int 0, .int 0, .int 0, .int 0, .int 0, .int 0, .int (-1), .int 0, .int 0, .int 0, .ref k19, .ref k20, .ref k21, .ref k22, .ref k23, .int 0, .ref k25, .ref k26, .ref k27, .int 0, .int 0, .ref k30, .ref k31, .int 0, .ref k33, .int 0, .int 0, .ref k36, .ref k37, .ref k38, .ref k39]), (k0, eI (ty 0) 1875 knF)] (QI D ty (fun (r : Int32) (w : va_W) => (-1) = r ∧ w = [])) := by
  refine CC_of (by decide) ?_
  intro p e s m below meth c A C hP hD hS
  obtain ⟨⟨hx, hb, hml, hown, hts⟩, hr, hlocks, hnm, hK, hE, hA, hZ⟩ := id C
  refine startW [.ref h0, .int pn] 2 (nle rfl) (lv := [(0, .ref h0), (1, .int pn)]) rfl (fun ls hl => ?_)
  refine lv_aload_n hx hb d_X9_call_0 rfl (lv_at hl 0 rfl) ?_
  refine lv_iload_n hx hb d_X9_call_1 rfl (lv_at hl 1 rfl) ?_
  refine lv_iconst (v := 0) hx hb d_X9_call_2 (by decide) ?_
  have ct_1 : Cut [(h0, eO 9 [.ref k0, .ref k1, .ref k2, .ref k3, .int 0, .ref k5, .int 0, .int 0, .int 0, .int 0, .int 0, .int 0, .int 0, .int 0, .int 0, .int (-1), .int 0, .int 0, .int 0, .ref k19, .ref k20, .ref k21, .ref k22, .ref k23, .int 0, .ref k25, .ref k26, .ref k27, .int 0, .int 0, .ref k30, .ref k31, .int 0, .ref k33, .int 0, .int 0, .ref k36, .ref k37, .ref k38, .ref k39]), (k0, eI (ty 0) 1875 knF)] [(h0, eO 9 [.ref k0, .ref k1, .ref k2, .ref k3, .int 0, .ref k5, .int 0, .int 0, .int 0, .int 0, .int 0, .int 0, .int 0, .int 0, .int 0, .int (-1), .int 0, .int 0, .int 0, .ref k19, .ref k20, .ref k21, .ref k22, .ref k23, .int 0, .ref k25, .ref k26, .ref k27, .int 0, .int 0, .ref k30, .ref k31, .int 0, .ref k33, .int 0, .int 0, .ref k36, .ref k37, .ref k38, .ref k39]), (k0, eI (ty 0) 1875 knF)] [] [0, 1] [] := ⟨rfl, rfl, rfl, rfl, by decide⟩
  refine cont_I C hP hD hS ct_1 (run_V (As := [.int pn, .int 0]) (rest := []) C hP hD hS ct_1 (c_mmov0 l D ty h0 k0 k1 k2 k3 k5 k19 k20 k21 k22 k23 k25 k26 k27 k30 k31 k33 k36 k37 k38 k39 (.int 0) (.int 0) (.int 0) (.int 0) (.int 0) (.int 0) (.int 0) (.int 0) (.int 0) (.int 0) (.int (-1)) (.int 0) (.int 0) (.int 0) (.int 0) (.int 0) (.int 0) (.int 0) (.int 0) (.int 0) knF pn KF_0) kV_PinchedBillModel_346 0 rfl rfl rfl rfl hl.1 rfl (nle rfl) d_X9_call_3 ⟨by decide, by decide, by decide, by decide⟩) (fun r_3 w_4 H locs hw_2 hP hD hS => ?_)
  obtain ⟨rfl, rfl⟩ := hw_2
  have hP : va_P D vwCl [] H := hP
  have hD : va_D A [] := hD
  exact ret_I (w := []) C hP hD hS [] rfl rfl ⟨rfl, rfl⟩ (by decide) (by decide) d_X9_call_6
set_option maxHeartbeats 4000000 in
set_option maxRecDepth 100000 in
theorem c_mkeeps (l : Launch) (D : va_G) (ty : Nat → ClassId) (h0 : Nat) (k0 : Nat) (k1 : Nat) (k2 : Nat) (k3 : Nat) (k5 : Nat) (k19 : Nat) (k20 : Nat) (k21 : Nat) (k22 : Nat) (k23 : Nat) (k25 : Nat) (k26 : Nat) (k27 : Nat) (k30 : Nat) (k31 : Nat) (k33 : Nat) (k36 : Nat) (k37 : Nat) (k38 : Nat) (k39 : Nat) (u4 : Value) (u6 : Value) (u7 : Value) (u8 : Value) (u9 : Value) (u10 : Value) (u11 : Value) (u12 : Value) (u13 : Value) (u14 : Value) (u15 : Value) (u16 : Value) (u17 : Value) (u18 : Value) (u24 : Value) (u28 : Value) (u29 : Value) (u32 : Value) (u34 : Value) (u35 : Value) (kf : Nat → Int32) (d : Nat) (b : Nat) (hkf : KF kf) (hk5 : kf 5 = nI d) (hd : d < 11) (hk6 : kf 6 = nI b) : CC l D ty ⟨"PinchedBillModel", "keeps", "()V"⟩ prog_11_method_61_code 2 none 0 0 0 0 [.ref h0] [(h0, eO 9 [.ref k0, .ref k1, .ref k2, .ref k3, u4, .ref k5, u6, u7, u8, u9, u10, u11, u12, u13, u14, u15, u16, u17, u18, .ref k19, .ref k20, .ref k21, .ref k22, .ref k23, u24, .ref k25, .ref k26, .ref k27, u28, u29, .ref k30, .ref k31, u32, .ref k33, u34, u35, .ref k36, .ref k37, .ref k38, .ref k39]), (k0, eI (ty 0) 1875 kf)] (QV D ty (fun (w : va_W) => ∃ (kf9 : Nat → Int32) (d9 : Nat), (KF kf9) ∧ (kf9 5 = nI d9) ∧ (d9 < 11) ∧ (kf9 6 = nI b) ∧ w = [(h0, eO 9 [.ref k0, .ref k1, .ref k2, .ref k3, u4, .ref k5, u6, u7, u8, u9, u10, u11, u12, u13, u14, u15, u16, u17, u18, .ref k19, .ref k20, .ref k21, .ref k22, .ref k23, u24, .ref k25, .ref k26, .ref k27, u28, u29, .ref k30, .ref k31, u32, .ref k33, u34, u35, .ref k36, .ref k37, .ref k38, .ref k39]), (k0, eI (ty 0) 1875 kf9)])) := by
  refine CC_of (by decide) ?_
  intro p e s m below meth c A C hP hD hS
  obtain ⟨⟨hx, hb, hml, hown, hts⟩, hr, hlocks, hnm, hK, hE, hA, hZ⟩ := id C
  refine startW [.ref h0] 2 (nle rfl) (lv := [(0, .ref h0)]) rfl (fun ls hl => ?_)
  refine lv_aload_n hx hb d_X9_keeps_0 rfl (lv_at hl 0 rfl) ?_
  refine r_get (v := .ref k0) C hP 0 rfl rfl lay_X9 0 (by decide) k_1545 rfl d_X9_keeps_1 ?_
  refine lv_iconst (v := 5) hx hb d_X9_keeps_4 (by decide) ?_
  refine r_iald (v := (nI d)) C hP 1 rfl 5 rfl (by decide) (by decide) hk5 d_X9_keeps_5 ?_
  refine lv_bipush (v := 10) hx hb d_X9_keeps_6 (by decide) ?_
  refine lv_icmp_ne (tgt := 50) hx hb d_X9_keeps_8 (by decide) (fun hc_1 => ?_) (fun hc_1 => ?_)
  · have hc_1 := un_ne d 10 rfl rfl (by omega) (by omega) hc_1
    have hd10 : d < 10 := by omega
    refine lv_iconst (v := 0) hx hb d_X9_keeps_50 (by decide) ?_
    refine lv_istore_n (lv' := [(1, .int 0), (0, .ref h0)]) hx hb d_X9_keeps_51 rfl hl (by decide) rfl (fun ls hl => ?_)
    refine lv_iload_n hx hb d_X9_keeps_52 rfl (lv_at hl 0 rfl) ?_
    refine lv_iconst (v := 3) hx hb d_X9_keeps_53 (by decide) ?_
    refine b_icmp_geF C 90 d_X9_keeps_54 (by decide) (by decide) ?_
    refine lv_aload_n hx hb d_X9_keeps_57 rfl (lv_at hl 1 rfl) ?_
    refine r_get (v := .ref k0) C hP 0 rfl rfl lay_X9 0 (by decide) k_1545 rfl d_X9_keeps_58 ?_
    refine lv_bipush (v := 41) hx hb d_X9_keeps_61 (by decide) ?_
    refine lv_iconst (v := 3) hx hb d_X9_keeps_63 (by decide) ?_
    refine lv_aload_n hx hb d_X9_keeps_64 rfl (lv_at hl 1 rfl) ?_
    refine r_get (v := .ref k0) C hP 0 rfl rfl lay_X9 0 (by decide) k_1545 rfl d_X9_keeps_65 ?_
    refine lv_iconst (v := 5) hx hb d_X9_keeps_68 (by decide) ?_
    refine r_iald (v := (nI d)) C hP 1 rfl 5 rfl (by decide) (by decide) hk5 d_X9_keeps_69 ?_
    refine r_imul (z := (nI (3 * d))) C d_X9_keeps_70 (a_mul 3 d (3 * d) rfl rfl (by omega)) ?_
    refine r_iadd (z := (nI (41 + (3 * d)))) C d_X9_keeps_71 (a_add 41 (3 * d) (41 + (3 * d)) rfl rfl (by omega)) ?_
    refine lv_iload_n hx hb d_X9_keeps_72 rfl (lv_at hl 0 rfl) ?_
    refine r_iadd (z := (nI (41 + (3 * d)))) C d_X9_keeps_73 (a_add (41 + (3 * d)) 0 (41 + (3 * d)) rfl rfl (by omega)) ?_
    refine lv_aload_n hx hb d_X9_keeps_74 rfl (lv_at hl 1 rfl) ?_
    refine r_get (v := .ref k0) C hP 0 rfl rfl lay_X9 0 (by decide) k_1545 rfl d_X9_keeps_75 ?_
    refine lv_bipush (v := 6) hx hb d_X9_keeps_78 (by decide) ?_
    refine lv_iload_n hx hb d_X9_keeps_80 rfl (lv_at hl 0 rfl) ?_
    refine r_iadd (z := 6) C d_X9_keeps_81 (by decide) ?_
    refine r_iald (v := (nI b)) C hP 1 rfl 6 rfl (by decide) (by decide) hk6 d_X9_keeps_82 ?_
    refine r_iast (w := [(h0, eO 9 [.ref k0, .ref k1, .ref k2, .ref k3, u4, .ref k5, u6, u7, u8, u9, u10, u11, u12, u13, u14, u15, u16, u17, u18, .ref k19, .ref k20, .ref k21, .ref k22, .ref k23, u24, .ref k25, .ref k26, .ref k27, u28, u29, .ref k30, .ref k31, u32, .ref k33, u34, u35, .ref k36, .ref k37, .ref k38, .ref k39]), (k0, eI (ty 0) 1875 (upd kf (41 + (3 * d)) (nI b)))]) C hP hD hS 1 rfl (41 + (3 * d)) rfl (by omega) (by decide) rfl d_X9_keeps_83 (fun H locs hP hD hS => ?_)
    obtain ⟨kg_2, hkg_3⟩ : ∃ g9 : Nat → Int32, upd kf (41 + (3 * d)) (nI b) = g9 := ⟨_, rfl⟩
    rw [hkg_3] at hP hD
    have hK_4 : KF kg_2 := hkg_3 ▸ KF_u hkf _ (by omega) (by omega) (by omega)
    have hk5_5 : kg_2 5 = nI d := by rw [← hkg_3, pk_un (by omega)]; exact hk5
    have hk6_6 : kg_2 6 = nI b := by rw [← hkg_3, pk_un (by omega)]; exact hk6
    refine lv_iinc (v := 1) (lv' := [(1, .int 1), (0, .ref h0)]) (k := 0) hx hb d_X9_keeps_84 hl rfl (by decide) (by decide) rfl (fun ls hl => ?_)
    refine lv_goto (tgt := 52) hx hb d_X9_keeps_87 (by decide) ?_
    refine lv_iload_n hx hb d_X9_keeps_52 rfl (lv_at hl 0 rfl) ?_
    refine lv_iconst (v := 3) hx hb d_X9_keeps_53 (by decide) ?_
    refine b_icmp_geF C 90 d_X9_keeps_54 (by decide) (by decide) ?_
    refine lv_aload_n hx hb d_X9_keeps_57 rfl (lv_at hl 1 rfl) ?_
    refine r_get (v := .ref k0) C hP 0 rfl rfl lay_X9 0 (by decide) k_1545 rfl d_X9_keeps_58 ?_
    refine lv_bipush (v := 41) hx hb d_X9_keeps_61 (by decide) ?_
    refine lv_iconst (v := 3) hx hb d_X9_keeps_63 (by decide) ?_
    refine lv_aload_n hx hb d_X9_keeps_64 rfl (lv_at hl 1 rfl) ?_
    refine r_get (v := .ref k0) C hP 0 rfl rfl lay_X9 0 (by decide) k_1545 rfl d_X9_keeps_65 ?_
    refine lv_iconst (v := 5) hx hb d_X9_keeps_68 (by decide) ?_
    refine r_iald (v := (nI d)) C hP 1 rfl 5 rfl (by decide) (by decide) hk5_5 d_X9_keeps_69 ?_
    refine r_imul (z := (nI (3 * d))) C d_X9_keeps_70 (a_mul 3 d (3 * d) rfl rfl (by omega)) ?_
    refine r_iadd (z := (nI (41 + (3 * d)))) C d_X9_keeps_71 (a_add 41 (3 * d) (41 + (3 * d)) rfl rfl (by omega)) ?_
    refine lv_iload_n hx hb d_X9_keeps_72 rfl (lv_at hl 0 rfl) ?_
    refine r_iadd (z := (nI ((41 + (3 * d)) + 1))) C d_X9_keeps_73 (a_add (41 + (3 * d)) 1 ((41 + (3 * d)) + 1) rfl rfl (by omega)) ?_
    refine lv_aload_n hx hb d_X9_keeps_74 rfl (lv_at hl 1 rfl) ?_
    refine r_get (v := .ref k0) C hP 0 rfl rfl lay_X9 0 (by decide) k_1545 rfl d_X9_keeps_75 ?_
    refine lv_bipush (v := 6) hx hb d_X9_keeps_78 (by decide) ?_
    refine lv_iload_n hx hb d_X9_keeps_80 rfl (lv_at hl 0 rfl) ?_
    refine r_iadd (z := 7) C d_X9_keeps_81 (by decide) ?_
    refine r_iald (v := (kg_2 7)) C hP 1 rfl 7 rfl (by decide) (by decide) rfl d_X9_keeps_82 ?_
    refine r_iast (w := [(h0, eO 9 [.ref k0, .ref k1, .ref k2, .ref k3, u4, .ref k5, u6, u7, u8, u9, u10, u11, u12, u13, u14, u15, u16, u17, u18, .ref k19, .ref k20, .ref k21, .ref k22, .ref k23, u24, .ref k25, .ref k26, .ref k27, u28, u29, .ref k30, .ref k31, u32, .ref k33, u34, u35, .ref k36, .ref k37, .ref k38, .ref k39]), (k0, eI (ty 0) 1875 (upd kg_2 ((41 + (3 * d)) + 1) (kg_2 7)))]) C hP hD hS 1 rfl ((41 + (3 * d)) + 1) rfl (by omega) (by decide) rfl d_X9_keeps_83 (fun H locs hP hD hS => ?_)
    obtain ⟨kg_7, hkg_8⟩ : ∃ g9 : Nat → Int32, upd kg_2 ((41 + (3 * d)) + 1) (kg_2 7) = g9 := ⟨_, rfl⟩
    rw [hkg_8] at hP hD
    have hK_9 : KF kg_7 := hkg_8 ▸ KF_u hK_4 _ (by omega) (by omega) (by omega)
    have hk5_10 : kg_7 5 = nI d := by rw [← hkg_8, pk_un (by omega)]; exact hk5_5
    have hk6_11 : kg_7 6 = nI b := by rw [← hkg_8, pk_un (by omega)]; exact hk6_6
    refine lv_iinc (v := 2) (lv' := [(1, .int 2), (0, .ref h0)]) (k := 0) hx hb d_X9_keeps_84 hl rfl (by decide) (by decide) rfl (fun ls hl => ?_)
    refine lv_goto (tgt := 52) hx hb d_X9_keeps_87 (by decide) ?_
    refine lv_iload_n hx hb d_X9_keeps_52 rfl (lv_at hl 0 rfl) ?_
    refine lv_iconst (v := 3) hx hb d_X9_keeps_53 (by decide) ?_
    refine b_icmp_geF C 90 d_X9_keeps_54 (by decide) (by decide) ?_
    refine lv_aload_n hx hb d_X9_keeps_57 rfl (lv_at hl 1 rfl) ?_
    refine r_get (v := .ref k0) C hP 0 rfl rfl lay_X9 0 (by decide) k_1545 rfl d_X9_keeps_58 ?_
    refine lv_bipush (v := 41) hx hb d_X9_keeps_61 (by decide) ?_
    refine lv_iconst (v := 3) hx hb d_X9_keeps_63 (by decide) ?_
    refine lv_aload_n hx hb d_X9_keeps_64 rfl (lv_at hl 1 rfl) ?_
    refine r_get (v := .ref k0) C hP 0 rfl rfl lay_X9 0 (by decide) k_1545 rfl d_X9_keeps_65 ?_
    refine lv_iconst (v := 5) hx hb d_X9_keeps_68 (by decide) ?_
    refine r_iald (v := (nI d)) C hP 1 rfl 5 rfl (by decide) (by decide) hk5_10 d_X9_keeps_69 ?_
    refine r_imul (z := (nI (3 * d))) C d_X9_keeps_70 (a_mul 3 d (3 * d) rfl rfl (by omega)) ?_
    refine r_iadd (z := (nI (41 + (3 * d)))) C d_X9_keeps_71 (a_add 41 (3 * d) (41 + (3 * d)) rfl rfl (by omega)) ?_
    refine lv_iload_n hx hb d_X9_keeps_72 rfl (lv_at hl 0 rfl) ?_
    refine r_iadd (z := (nI ((41 + (3 * d)) + 2))) C d_X9_keeps_73 (a_add (41 + (3 * d)) 2 ((41 + (3 * d)) + 2) rfl rfl (by omega)) ?_
    refine lv_aload_n hx hb d_X9_keeps_74 rfl (lv_at hl 1 rfl) ?_
    refine r_get (v := .ref k0) C hP 0 rfl rfl lay_X9 0 (by decide) k_1545 rfl d_X9_keeps_75 ?_
    refine lv_bipush (v := 6) hx hb d_X9_keeps_78 (by decide) ?_
    refine lv_iload_n hx hb d_X9_keeps_80 rfl (lv_at hl 0 rfl) ?_
    refine r_iadd (z := 8) C d_X9_keeps_81 (by decide) ?_
    refine r_iald (v := 0) C hP 1 rfl 8 rfl (by decide) (by decide) hK_9.2.2 d_X9_keeps_82 ?_
    refine r_iast (w := [(h0, eO 9 [.ref k0, .ref k1, .ref k2, .ref k3, u4, .ref k5, u6, u7, u8, u9, u10, u11, u12, u13, u14, u15, u16, u17, u18, .ref k19, .ref k20, .ref k21, .ref k22, .ref k23, u24, .ref k25, .ref k26, .ref k27, u28, u29, .ref k30, .ref k31, u32, .ref k33, u34, u35, .ref k36, .ref k37, .ref k38, .ref k39]), (k0, eI (ty 0) 1875 (upd kg_7 ((41 + (3 * d)) + 2) 0))]) C hP hD hS 1 rfl ((41 + (3 * d)) + 2) rfl (by omega) (by decide) rfl d_X9_keeps_83 (fun H locs hP hD hS => ?_)
    obtain ⟨kg_12, hkg_13⟩ : ∃ g9 : Nat → Int32, upd kg_7 ((41 + (3 * d)) + 2) 0 = g9 := ⟨_, rfl⟩
    rw [hkg_13] at hP hD
    have hK_14 : KF kg_12 := hkg_13 ▸ KF_u hK_9 _ (by omega) (by omega) (by omega)
    have hk5_15 : kg_12 5 = nI d := by rw [← hkg_13, pk_un (by omega)]; exact hk5_10
    have hk6_16 : kg_12 6 = nI b := by rw [← hkg_13, pk_un (by omega)]; exact hk6_11
    refine lv_iinc (v := 3) (lv' := [(1, .int 3), (0, .ref h0)]) (k := 0) hx hb d_X9_keeps_84 hl rfl (by decide) (by decide) rfl (fun ls hl => ?_)
    refine lv_goto (tgt := 52) hx hb d_X9_keeps_87 (by decide) ?_
    refine lv_iload_n hx hb d_X9_keeps_52 rfl (lv_at hl 0 rfl) ?_
    refine lv_iconst (v := 3) hx hb d_X9_keeps_53 (by decide) ?_
    refine b_icmp_geT C 90 d_X9_keeps_54 (by decide) (by decide) ?_
    refine lv_aload_n hx hb d_X9_keeps_90 rfl (lv_at hl 1 rfl) ?_
    refine r_get (v := .ref k0) C hP 0 rfl rfl lay_X9 0 (by decide) k_1545 rfl d_X9_keeps_91 ?_
    refine lv_iconst (v := 5) hx hb d_X9_keeps_94 (by decide) ?_
    refine lv_dup2_11 hx hb d_X9_keeps_95 rfl rfl ?_
    refine r_iald (v := (nI d)) C hP 1 rfl 5 rfl (by decide) (by decide) hk5_15 d_X9_keeps_96 ?_
    refine lv_iconst (v := 1) hx hb d_X9_keeps_97 (by decide) ?_
    refine r_iadd (z := (nI (d + 1))) C d_X9_keeps_98 (a_add d 1 (d + 1) rfl rfl (by omega)) ?_
    refine r_iast (w := [(h0, eO 9 [.ref k0, .ref k1, .ref k2, .ref k3, u4, .ref k5, u6, u7, u8, u9, u10, u11, u12, u13, u14, u15, u16, u17, u18, .ref k19, .ref k20, .ref k21, .ref k22, .ref k23, u24, .ref k25, .ref k26, .ref k27, u28, u29, .ref k30, .ref k31, u32, .ref k33, u34, u35, .ref k36, .ref k37, .ref k38, .ref k39]), (k0, eI (ty 0) 1875 (upd kg_12 5 (nI (d + 1))))]) C hP hD hS 1 rfl 5 rfl (by decide) (by decide) rfl d_X9_keeps_99 (fun H locs hP hD hS => ?_)
    obtain ⟨kg_17, hkg_18⟩ : ∃ g9 : Nat → Int32, upd kg_12 5 (nI (d + 1)) = g9 := ⟨_, rfl⟩
    rw [hkg_18] at hP hD
    have hK_19 : KF kg_17 := hkg_18 ▸ KF_u hK_14 _ (by omega) (by omega) (by omega)
    have hk5_20 : kg_17 5 = nI (d + 1) := hkg_18 ▸ pk_us
    have hk6_21 : kg_17 6 = nI b := by rw [← hkg_18, pk_un (by omega)]; exact hk6_16
    exact ret_V (w := [(h0, eO 9 [.ref k0, .ref k1, .ref k2, .ref k3, u4, .ref k5, u6, u7, u8, u9, u10, u11, u12, u13, u14, u15, u16, u17, u18, .ref k19, .ref k20, .ref k21, .ref k22, .ref k23, u24, .ref k25, .ref k26, .ref k27, u28, u29, .ref k30, .ref k31, u32, .ref k33, u34, u35, .ref k36, .ref k37, .ref k38, .ref k39]), (k0, eI (ty 0) 1875 kg_17)]) C hP hD hS [0, 1] rfl rfl ⟨kg_17, (d + 1), hK_19, hk5_20, (by omega), hk6_21, rfl⟩ (by decide) (by decide) d_X9_keeps_100
  · have hc_1 := un_eq d 10 rfl rfl (by omega) (by omega) hc_1
    obtain rfl : d = 10 := by omega
    refine lv_bipush (v := 41) hx hb d_X9_keeps_11 (by decide) ?_
    refine lv_istore_n (lv' := [(1, .int 41), (0, .ref h0)]) hx hb d_X9_keeps_13 rfl hl (by decide) rfl (fun ls hl => ?_)
    refine loopW2 (fun (k : Nat) (g : Nat → Int32) (H : Heap) (locs : List Loc) (ls : Array Slot) => (41 ≤ k) ∧ (k ≤ 68) ∧ (KF g) ∧ (g 5 = nI 10) ∧ (g 6 = nI b) ∧ va_P D vwCl [(h0, eO 9 [.ref k0, .ref k1, .ref k2, .ref k3, u4, .ref k5, u6, u7, u8, u9, u10, u11, u12, u13, u14, u15, u16, u17, u18, .ref k19, .ref k20, .ref k21, .ref k22, .ref k23, u24, .ref k25, .ref k26, .ref k27, u28, u29, .ref k30, .ref k31, u32, .ref k33, u34, u35, .ref k36, .ref k37, .ref k38, .ref k39]), (k0, eI (ty 0) 1875 g)] H ∧ va_D A [(h0, eO 9 [.ref k0, .ref k1, .ref k2, .ref k3, u4, .ref k5, u6, u7, u8, u9, u10, u11, u12, u13, u14, u15, u16, u17, u18, .ref k19, .ref k20, .ref k21, .ref k22, .ref k23, u24, .ref k25, .ref k26, .ref k27, u28, u29, .ref k30, .ref k31, u32, .ref k33, u34, u35, .ref k36, .ref k37, .ref k38, .ref k39]), (k0, eI (ty 0) 1875 g)] ∧ va_S A s.heap H locs ∧ lv_has ls 2 [(1, .int (nI k)), (0, .ref h0)]) (fun (k : Nat) (g : Nat → Int32) => 68 - k) ?_ 41 kf ⟨(by omega), (by omega), hkf, hk5, hk6, hP, hD, hS, lv_sub hl [0, 1] rfl⟩
    intro k g H locs ls hI ih_22
    obtain ⟨hk0, hk1, hKg, hg5, hg6, hP, hD, hS, hl⟩ := hI
    refine lv_iload_n hx hb d_X9_keeps_14 rfl (lv_at hl 0 rfl) ?_
    refine lv_bipush (v := 68) hx hb d_X9_keeps_15 (by decide) ?_
    refine lv_icmp_ge (tgt := 40) hx hb d_X9_keeps_17 (by decide) (fun hc_23 => ?_) (fun hc_23 => ?_)
    · have hc_23 := un_le 68 k rfl rfl (by omega) (by omega) hc_23
      refine lv_aload_n hx hb d_X9_keeps_40 rfl (lv_at hl 1 rfl) ?_
      refine r_get (v := .ref k0) C hP 0 rfl rfl lay_X9 0 (by decide) k_1545 rfl d_X9_keeps_41 ?_
      refine lv_iconst (v := 5) hx hb d_X9_keeps_44 (by decide) ?_
      refine lv_dup2_11 hx hb d_X9_keeps_45 rfl rfl ?_
      refine r_iald (v := 10) C hP 1 rfl 5 rfl (by decide) (by decide) hg5 d_X9_keeps_46 ?_
      refine lv_iconst (v := 1) hx hb d_X9_keeps_47 (by decide) ?_
      refine r_isub (z := 9) C d_X9_keeps_48 (by decide) ?_
      refine r_iast (w := [(h0, eO 9 [.ref k0, .ref k1, .ref k2, .ref k3, u4, .ref k5, u6, u7, u8, u9, u10, u11, u12, u13, u14, u15, u16, u17, u18, .ref k19, .ref k20, .ref k21, .ref k22, .ref k23, u24, .ref k25, .ref k26, .ref k27, u28, u29, .ref k30, .ref k31, u32, .ref k33, u34, u35, .ref k36, .ref k37, .ref k38, .ref k39]), (k0, eI (ty 0) 1875 (upd g 5 9))]) C hP hD hS 1 rfl 5 rfl (by decide) (by decide) rfl d_X9_keeps_49 (fun H locs hP hD hS => ?_)
      obtain ⟨kg_24, hkg_25⟩ : ∃ g9 : Nat → Int32, upd g 5 9 = g9 := ⟨_, rfl⟩
      rw [hkg_25] at hP hD
      have hK_26 : KF kg_24 := hkg_25 ▸ KF_u hKg _ (by omega) (by omega) (by omega)
      have hk5_27 : kg_24 5 = nI 9 := hkg_25 ▸ pk_us
      have hk6_28 : kg_24 6 = nI b := by rw [← hkg_25, pk_un (by omega)]; exact hg6
      refine lv_iconst (v := 0) hx hb d_X9_keeps_50 (by decide) ?_
      refine lv_istore_n (lv' := [(1, .int 0), (0, .ref h0)]) hx hb d_X9_keeps_51 rfl hl (by decide) rfl (fun ls hl => ?_)
      refine lv_iload_n hx hb d_X9_keeps_52 rfl (lv_at hl 0 rfl) ?_
      refine lv_iconst (v := 3) hx hb d_X9_keeps_53 (by decide) ?_
      refine b_icmp_geF C 90 d_X9_keeps_54 (by decide) (by decide) ?_
      refine lv_aload_n hx hb d_X9_keeps_57 rfl (lv_at hl 1 rfl) ?_
      refine r_get (v := .ref k0) C hP 0 rfl rfl lay_X9 0 (by decide) k_1545 rfl d_X9_keeps_58 ?_
      refine lv_bipush (v := 41) hx hb d_X9_keeps_61 (by decide) ?_
      refine lv_iconst (v := 3) hx hb d_X9_keeps_63 (by decide) ?_
      refine lv_aload_n hx hb d_X9_keeps_64 rfl (lv_at hl 1 rfl) ?_
      refine r_get (v := .ref k0) C hP 0 rfl rfl lay_X9 0 (by decide) k_1545 rfl d_X9_keeps_65 ?_
      refine lv_iconst (v := 5) hx hb d_X9_keeps_68 (by decide) ?_
      refine r_iald (v := 9) C hP 1 rfl 5 rfl (by decide) (by decide) hk5_27 d_X9_keeps_69 ?_
      refine r_imul (z := 27) C d_X9_keeps_70 (by decide) ?_
      refine r_iadd (z := 68) C d_X9_keeps_71 (by decide) ?_
      refine lv_iload_n hx hb d_X9_keeps_72 rfl (lv_at hl 0 rfl) ?_
      refine r_iadd (z := 68) C d_X9_keeps_73 (by decide) ?_
      refine lv_aload_n hx hb d_X9_keeps_74 rfl (lv_at hl 1 rfl) ?_
      refine r_get (v := .ref k0) C hP 0 rfl rfl lay_X9 0 (by decide) k_1545 rfl d_X9_keeps_75 ?_
      refine lv_bipush (v := 6) hx hb d_X9_keeps_78 (by decide) ?_
      refine lv_iload_n hx hb d_X9_keeps_80 rfl (lv_at hl 0 rfl) ?_
      refine r_iadd (z := 6) C d_X9_keeps_81 (by decide) ?_
      refine r_iald (v := (nI b)) C hP 1 rfl 6 rfl (by decide) (by decide) hk6_28 d_X9_keeps_82 ?_
      refine r_iast (w := [(h0, eO 9 [.ref k0, .ref k1, .ref k2, .ref k3, u4, .ref k5, u6, u7, u8, u9, u10, u11, u12, u13, u14, u15, u16, u17, u18, .ref k19, .ref k20, .ref k21, .ref k22, .ref k23, u24, .ref k25, .ref k26, .ref k27, u28, u29, .ref k30, .ref k31, u32, .ref k33, u34, u35, .ref k36, .ref k37, .ref k38, .ref k39]), (k0, eI (ty 0) 1875 (upd kg_24 68 (nI b)))]) C hP hD hS 1 rfl 68 rfl (by decide) (by decide) rfl d_X9_keeps_83 (fun H locs hP hD hS => ?_)
      obtain ⟨kg_29, hkg_30⟩ : ∃ g9 : Nat → Int32, upd kg_24 68 (nI b) = g9 := ⟨_, rfl⟩
      rw [hkg_30] at hP hD
      have hK_31 : KF kg_29 := hkg_30 ▸ KF_u hK_26 _ (by omega) (by omega) (by omega)
      have hk5_32 : kg_29 5 = nI 9 := by rw [← hkg_30, pk_un (by omega)]; exact hk5_27
      have hk6_33 : kg_29 6 = nI b := by rw [← hkg_30, pk_un (by omega)]; exact hk6_28
      refine lv_iinc (v := 1) (lv' := [(1, .int 1), (0, .ref h0)]) (k := 0) hx hb d_X9_keeps_84 hl rfl (by decide) (by decide) rfl (fun ls hl => ?_)
      refine lv_goto (tgt := 52) hx hb d_X9_keeps_87 (by decide) ?_
      refine lv_iload_n hx hb d_X9_keeps_52 rfl (lv_at hl 0 rfl) ?_
      refine lv_iconst (v := 3) hx hb d_X9_keeps_53 (by decide) ?_
      refine b_icmp_geF C 90 d_X9_keeps_54 (by decide) (by decide) ?_
      refine lv_aload_n hx hb d_X9_keeps_57 rfl (lv_at hl 1 rfl) ?_
      refine r_get (v := .ref k0) C hP 0 rfl rfl lay_X9 0 (by decide) k_1545 rfl d_X9_keeps_58 ?_
      refine lv_bipush (v := 41) hx hb d_X9_keeps_61 (by decide) ?_
      refine lv_iconst (v := 3) hx hb d_X9_keeps_63 (by decide) ?_
      refine lv_aload_n hx hb d_X9_keeps_64 rfl (lv_at hl 1 rfl) ?_
      refine r_get (v := .ref k0) C hP 0 rfl rfl lay_X9 0 (by decide) k_1545 rfl d_X9_keeps_65 ?_
      refine lv_iconst (v := 5) hx hb d_X9_keeps_68 (by decide) ?_
      refine r_iald (v := 9) C hP 1 rfl 5 rfl (by decide) (by decide) hk5_32 d_X9_keeps_69 ?_
      refine r_imul (z := 27) C d_X9_keeps_70 (by decide) ?_
      refine r_iadd (z := 68) C d_X9_keeps_71 (by decide) ?_
      refine lv_iload_n hx hb d_X9_keeps_72 rfl (lv_at hl 0 rfl) ?_
      refine r_iadd (z := 69) C d_X9_keeps_73 (by decide) ?_
      refine lv_aload_n hx hb d_X9_keeps_74 rfl (lv_at hl 1 rfl) ?_
      refine r_get (v := .ref k0) C hP 0 rfl rfl lay_X9 0 (by decide) k_1545 rfl d_X9_keeps_75 ?_
      refine lv_bipush (v := 6) hx hb d_X9_keeps_78 (by decide) ?_
      refine lv_iload_n hx hb d_X9_keeps_80 rfl (lv_at hl 0 rfl) ?_
      refine r_iadd (z := 7) C d_X9_keeps_81 (by decide) ?_
      refine r_iald (v := (kg_29 7)) C hP 1 rfl 7 rfl (by decide) (by decide) rfl d_X9_keeps_82 ?_
      refine r_iast (w := [(h0, eO 9 [.ref k0, .ref k1, .ref k2, .ref k3, u4, .ref k5, u6, u7, u8, u9, u10, u11, u12, u13, u14, u15, u16, u17, u18, .ref k19, .ref k20, .ref k21, .ref k22, .ref k23, u24, .ref k25, .ref k26, .ref k27, u28, u29, .ref k30, .ref k31, u32, .ref k33, u34, u35, .ref k36, .ref k37, .ref k38, .ref k39]), (k0, eI (ty 0) 1875 (upd kg_29 69 (kg_29 7)))]) C hP hD hS 1 rfl 69 rfl (by decide) (by decide) rfl d_X9_keeps_83 (fun H locs hP hD hS => ?_)
      obtain ⟨kg_34, hkg_35⟩ : ∃ g9 : Nat → Int32, upd kg_29 69 (kg_29 7) = g9 := ⟨_, rfl⟩
      rw [hkg_35] at hP hD
      have hK_36 : KF kg_34 := hkg_35 ▸ KF_u hK_31 _ (by omega) (by omega) (by omega)
      have hk5_37 : kg_34 5 = nI 9 := by rw [← hkg_35, pk_un (by omega)]; exact hk5_32
      have hk6_38 : kg_34 6 = nI b := by rw [← hkg_35, pk_un (by omega)]; exact hk6_33
      refine lv_iinc (v := 2) (lv' := [(1, .int 2), (0, .ref h0)]) (k := 0) hx hb d_X9_keeps_84 hl rfl (by decide) (by decide) rfl (fun ls hl => ?_)
      refine lv_goto (tgt := 52) hx hb d_X9_keeps_87 (by decide) ?_
      refine lv_iload_n hx hb d_X9_keeps_52 rfl (lv_at hl 0 rfl) ?_
      refine lv_iconst (v := 3) hx hb d_X9_keeps_53 (by decide) ?_
      refine b_icmp_geF C 90 d_X9_keeps_54 (by decide) (by decide) ?_
      refine lv_aload_n hx hb d_X9_keeps_57 rfl (lv_at hl 1 rfl) ?_
      refine r_get (v := .ref k0) C hP 0 rfl rfl lay_X9 0 (by decide) k_1545 rfl d_X9_keeps_58 ?_
      refine lv_bipush (v := 41) hx hb d_X9_keeps_61 (by decide) ?_
      refine lv_iconst (v := 3) hx hb d_X9_keeps_63 (by decide) ?_
      refine lv_aload_n hx hb d_X9_keeps_64 rfl (lv_at hl 1 rfl) ?_
      refine r_get (v := .ref k0) C hP 0 rfl rfl lay_X9 0 (by decide) k_1545 rfl d_X9_keeps_65 ?_
      refine lv_iconst (v := 5) hx hb d_X9_keeps_68 (by decide) ?_
      refine r_iald (v := 9) C hP 1 rfl 5 rfl (by decide) (by decide) hk5_37 d_X9_keeps_69 ?_
      refine r_imul (z := 27) C d_X9_keeps_70 (by decide) ?_
      refine r_iadd (z := 68) C d_X9_keeps_71 (by decide) ?_
      refine lv_iload_n hx hb d_X9_keeps_72 rfl (lv_at hl 0 rfl) ?_
      refine r_iadd (z := 70) C d_X9_keeps_73 (by decide) ?_
      refine lv_aload_n hx hb d_X9_keeps_74 rfl (lv_at hl 1 rfl) ?_
      refine r_get (v := .ref k0) C hP 0 rfl rfl lay_X9 0 (by decide) k_1545 rfl d_X9_keeps_75 ?_
      refine lv_bipush (v := 6) hx hb d_X9_keeps_78 (by decide) ?_
      refine lv_iload_n hx hb d_X9_keeps_80 rfl (lv_at hl 0 rfl) ?_
      refine r_iadd (z := 8) C d_X9_keeps_81 (by decide) ?_
      refine r_iald (v := 0) C hP 1 rfl 8 rfl (by decide) (by decide) hK_36.2.2 d_X9_keeps_82 ?_
      refine r_iast (w := [(h0, eO 9 [.ref k0, .ref k1, .ref k2, .ref k3, u4, .ref k5, u6, u7, u8, u9, u10, u11, u12, u13, u14, u15, u16, u17, u18, .ref k19, .ref k20, .ref k21, .ref k22, .ref k23, u24, .ref k25, .ref k26, .ref k27, u28, u29, .ref k30, .ref k31, u32, .ref k33, u34, u35, .ref k36, .ref k37, .ref k38, .ref k39]), (k0, eI (ty 0) 1875 (upd kg_34 70 0))]) C hP hD hS 1 rfl 70 rfl (by decide) (by decide) rfl d_X9_keeps_83 (fun H locs hP hD hS => ?_)
      obtain ⟨kg_39, hkg_40⟩ : ∃ g9 : Nat → Int32, upd kg_34 70 0 = g9 := ⟨_, rfl⟩
      rw [hkg_40] at hP hD
      have hK_41 : KF kg_39 := hkg_40 ▸ KF_u hK_36 _ (by omega) (by omega) (by omega)
      have hk5_42 : kg_39 5 = nI 9 := by rw [← hkg_40, pk_un (by omega)]; exact hk5_37
      have hk6_43 : kg_39 6 = nI b := by rw [← hkg_40, pk_un (by omega)]; exact hk6_38
      refine lv_iinc (v := 3) (lv' := [(1, .int 3), (0, .ref h0)]) (k := 0) hx hb d_X9_keeps_84 hl rfl (by decide) (by decide) rfl (fun ls hl => ?_)
      refine lv_goto (tgt := 52) hx hb d_X9_keeps_87 (by decide) ?_
      refine lv_iload_n hx hb d_X9_keeps_52 rfl (lv_at hl 0 rfl) ?_
      refine lv_iconst (v := 3) hx hb d_X9_keeps_53 (by decide) ?_
      refine b_icmp_geT C 90 d_X9_keeps_54 (by decide) (by decide) ?_
      refine lv_aload_n hx hb d_X9_keeps_90 rfl (lv_at hl 1 rfl) ?_
      refine r_get (v := .ref k0) C hP 0 rfl rfl lay_X9 0 (by decide) k_1545 rfl d_X9_keeps_91 ?_
      refine lv_iconst (v := 5) hx hb d_X9_keeps_94 (by decide) ?_
      refine lv_dup2_11 hx hb d_X9_keeps_95 rfl rfl ?_
      refine r_iald (v := 9) C hP 1 rfl 5 rfl (by decide) (by decide) hk5_42 d_X9_keeps_96 ?_
      refine lv_iconst (v := 1) hx hb d_X9_keeps_97 (by decide) ?_
      refine r_iadd (z := 10) C d_X9_keeps_98 (by decide) ?_
      refine r_iast (w := [(h0, eO 9 [.ref k0, .ref k1, .ref k2, .ref k3, u4, .ref k5, u6, u7, u8, u9, u10, u11, u12, u13, u14, u15, u16, u17, u18, .ref k19, .ref k20, .ref k21, .ref k22, .ref k23, u24, .ref k25, .ref k26, .ref k27, u28, u29, .ref k30, .ref k31, u32, .ref k33, u34, u35, .ref k36, .ref k37, .ref k38, .ref k39]), (k0, eI (ty 0) 1875 (upd kg_39 5 10))]) C hP hD hS 1 rfl 5 rfl (by decide) (by decide) rfl d_X9_keeps_99 (fun H locs hP hD hS => ?_)
      obtain ⟨kg_44, hkg_45⟩ : ∃ g9 : Nat → Int32, upd kg_39 5 10 = g9 := ⟨_, rfl⟩
      rw [hkg_45] at hP hD
      have hK_46 : KF kg_44 := hkg_45 ▸ KF_u hK_41 _ (by omega) (by omega) (by omega)
      have hk5_47 : kg_44 5 = nI 10 := hkg_45 ▸ pk_us
      have hk6_48 : kg_44 6 = nI b := by rw [← hkg_45, pk_un (by omega)]; exact hk6_43
      exact ret_V (w := [(h0, eO 9 [.ref k0, .ref k1, .ref k2, .ref k3, u4, .ref k5, u6, u7, u8, u9, u10, u11, u12, u13, u14, u15, u16, u17, u18, .ref k19, .ref k20, .ref k21, .ref k22, .ref k23, u24, .ref k25, .ref k26, .ref k27, u28, u29, .ref k30, .ref k31, u32, .ref k33, u34, u35, .ref k36, .ref k37, .ref k38, .ref k39]), (k0, eI (ty 0) 1875 kg_44)]) C hP hD hS [0, 1] rfl rfl ⟨kg_44, 10, hK_46, hk5_47, (by omega), hk6_48, rfl⟩ (by decide) (by decide) d_X9_keeps_100
    · have hc_23 := un_nle 68 k rfl rfl (by omega) (by omega) hc_23
      refine lv_aload_n hx hb d_X9_keeps_20 rfl (lv_at hl 1 rfl) ?_
      refine r_get (v := .ref k0) C hP 0 rfl rfl lay_X9 0 (by decide) k_1545 rfl d_X9_keeps_21 ?_
      refine lv_iload_n hx hb d_X9_keeps_24 rfl (lv_at hl 0 rfl) ?_
      refine lv_aload_n hx hb d_X9_keeps_25 rfl (lv_at hl 1 rfl) ?_
      refine r_get (v := .ref k0) C hP 0 rfl rfl lay_X9 0 (by decide) k_1545 rfl d_X9_keeps_26 ?_
      refine lv_iload_n hx hb d_X9_keeps_29 rfl (lv_at hl 0 rfl) ?_
      refine lv_iconst (v := 3) hx hb d_X9_keeps_30 (by decide) ?_
      refine r_iadd (z := (nI (k + 3))) C d_X9_keeps_31 (a_add k 3 (k + 3) rfl rfl (by omega)) ?_
      refine r_iald (v := (g (k + 3))) C hP 1 rfl (k + 3) rfl (by omega) (by decide) rfl d_X9_keeps_32 ?_
      refine r_iast (w := [(h0, eO 9 [.ref k0, .ref k1, .ref k2, .ref k3, u4, .ref k5, u6, u7, u8, u9, u10, u11, u12, u13, u14, u15, u16, u17, u18, .ref k19, .ref k20, .ref k21, .ref k22, .ref k23, u24, .ref k25, .ref k26, .ref k27, u28, u29, .ref k30, .ref k31, u32, .ref k33, u34, u35, .ref k36, .ref k37, .ref k38, .ref k39]), (k0, eI (ty 0) 1875 (upd g k (g (k + 3))))]) C hP hD hS 1 rfl k rfl (by omega) (by decide) rfl d_X9_keeps_33 (fun H locs hP hD hS => ?_)
      obtain ⟨kg_49, hkg_50⟩ : ∃ g9 : Nat → Int32, upd g k (g (k + 3)) = g9 := ⟨_, rfl⟩
      rw [hkg_50] at hP hD
      have hK_51 : KF kg_49 := hkg_50 ▸ KF_u hKg _ (by omega) (by omega) (by omega)
      have hk5_52 : kg_49 5 = nI 10 := by rw [← hkg_50, pk_un (by omega)]; exact hg5
      have hk6_53 : kg_49 6 = nI b := by rw [← hkg_50, pk_un (by omega)]; exact hg6
      refine lv_iinc (v := (nI (k + 1))) (lv' := [(1, .int (nI (k + 1))), (0, .ref h0)]) (k := 0) hx hb d_X9_keeps_34 hl rfl (a_inc k 1 (k + 1) rfl rfl) (by decide) rfl (fun ls hl => ?_)
      refine lv_goto (tgt := 14) hx hb d_X9_keeps_37 (by decide) ?_
      exact ih_22 (k + 1) kg_49 _ _ _ (by omega) ⟨(by omega), (by omega), hK_51, hk5_52, hk6_53, sub_P hP (is := [0, 1]) rfl, hD.sub [0, 1] (by decide) rfl, hS, lv_sub hl [0, 1] rfl⟩
set_option maxHeartbeats 4000000 in
set_option maxRecDepth 100000 in
theorem c_mgs (l : Launch) (D : va_G) (ty : Nat → ClassId) (h0 : Nat) (k0 : Nat) (k1 : Nat) (k2 : Nat) (k3 : Nat) (k5 : Nat) (k19 : Nat) (k20 : Nat) (k21 : Nat) (k22 : Nat) (k23 : Nat) (k25 : Nat) (k26 : Nat) (k27 : Nat) (k30 : Nat) (k31 : Nat) (k33 : Nat) (k36 : Nat) (k37 : Nat) (k38 : Nat) (k39 : Nat) (u4 : Value) (u6 : Value) (u7 : Value) (u8 : Value) (u9 : Value) (u10 : Value) (u11 : Value) (u12 : Value) (u13 : Value) (u14 : Value) (u15 : Value) (u16 : Value) (u17 : Value) (u18 : Value) (u24 : Value) (u28 : Value) (u29 : Value) (u32 : Value) (u34 : Value) (u35 : Value) (kf : Nat → Int32) (b : Nat) (hkf : KF kf) (hbd : b < 1000) (hk6 : kf 6 = nI b) : CC l D ty ⟨"PinchedBillModel", "goesStep", "()Z"⟩ prog_11_method_54_code 2 (some .boolean) 2 45 0 0 [.ref h0] [(h0, eO 9 [.ref k0, .ref k1, .ref k2, .ref k3, u4, .ref k5, u6, u7, u8, u9, u10, u11, u12, u13, u14, u15, u16, u17, u18, .ref k19, .ref k20, .ref k21, .ref k22, .ref k23, u24, .ref k25, .ref k26, .ref k27, u28, u29, .ref k30, .ref k31, u32, .ref k33, u34, u35, .ref k36, .ref k37, .ref k38, .ref k39]), (k0, eI (ty 0) 1875 kf), (k21, eI (ty 0) 1000 (fun _ => 0))] (QI D ty (fun (r : Int32) (w : va_W) => 0 = r ∧ w = [(h0, eO 9 [.ref k0, .ref k1, .ref k2, .ref k3, u4, .ref k5, u6, u7, u8, u9, u10, u11, u12, u13, u14, u15, u16, u17, u18, .ref k19, .ref k20, .ref k21, .ref k22, .ref k23, u24, .ref k25, .ref k26, .ref k27, u28, u29, .ref k30, .ref k31, u32, .ref k33, u34, u35, .ref k36, .ref k37, .ref k38, .ref k39]), (k0, eI (ty 0) 1875 kf), (k21, eI (ty 0) 1000 (fun _ => 0))])) := by
  refine CC_of (by decide) ?_
  intro p e s m below meth c A C hP hD hS
  obtain ⟨⟨hx, hb, hml, hown, hts⟩, hr, hlocks, hnm, hK, hE, hA, hZ⟩ := id C
  refine startW [.ref h0] 2 (nle rfl) (lv := [(0, .ref h0)]) rfl (fun ls hl => ?_)
  refine lv_aload_n hx hb d_X9_goesStep_0 rfl (lv_at hl 0 rfl) ?_
  have ct_1 : Cut [(h0, eO 9 [.ref k0, .ref k1, .ref k2, .ref k3, u4, .ref k5, u6, u7, u8, u9, u10, u11, u12, u13, u14, u15, u16, u17, u18, .ref k19, .ref k20, .ref k21, .ref k22, .ref k23, u24, .ref k25, .ref k26, .ref k27, u28, u29, .ref k30, .ref k31, u32, .ref k33, u34, u35, .ref k36, .ref k37, .ref k38, .ref k39]), (k0, eI (ty 0) 1875 kf), (k21, eI (ty 0) 1000 (fun _ => 0))] [(h0, eO 9 [.ref k0, .ref k1, .ref k2, .ref k3, u4, .ref k5, u6, u7, u8, u9, u10, u11, u12, u13, u14, u15, u16, u17, u18, .ref k19, .ref k20, .ref k21, .ref k22, .ref k23, u24, .ref k25, .ref k26, .ref k27, u28, u29, .ref k30, .ref k31, u32, .ref k33, u34, u35, .ref k36, .ref k37, .ref k38, .ref k39]), (k0, eI (ty 0) 1875 kf), (k21, eI (ty 0) 1000 (fun _ => 0))] [] [0, 1, 2] [] := ⟨rfl, rfl, rfl, rfl, by decide⟩
  refine cont_I C hP hD hS ct_1 (run_V (As := []) (rest := []) C hP hD hS ct_1 (c_mnext l D ty h0 k0 k1 k2 k3 k5 k19 k20 k21 k22 k23 k25 k26 k27 k30 k31 k33 k36 k37 k38 k39 u4 u6 u7 u8 u9 u10 u11 u12 u13 u14 u15 u16 u17 u18 u24 u28 u29 u32 u34 u35 kf b hkf hbd hk6) kV_PinchedBillModel_317 0 rfl rfl rfl rfl hl.1 rfl (nle rfl) d_X9_goesStep_1 ⟨by decide, by decide, by decide, by decide⟩) (fun r_3 w_4 H locs hw_2 hP hD hS => ?_)
  obtain ⟨rfl, rfl⟩ := hw_2
  have hP : va_P D vwCl [(h0, eO 9 [.ref k0, .ref k1, .ref k2, .ref k3, u4, .ref k5, u6, u7, u8, u9, u10, u11, u12, u13, u14, u15, u16, u17, u18, .ref k19, .ref k20, .ref k21, .ref k22, .ref k23, u24, .ref k25, .ref k26, .ref k27, u28, u29, .ref k30, .ref k31, u32, .ref k33, u34, u35, .ref k36, .ref k37, .ref k38, .ref k39]), (k0, eI (ty 0) 1875 kf), (k21, eI (ty 0) 1000 (fun _ => 0))] H := hP
  have hD : va_D A [(h0, eO 9 [.ref k0, .ref k1, .ref k2, .ref k3, u4, .ref k5, u6, u7, u8, u9, u10, u11, u12, u13, u14, u15, u16, u17, u18, .ref k19, .ref k20, .ref k21, .ref k22, .ref k23, u24, .ref k25, .ref k26, .ref k27, u28, u29, .ref k30, .ref k31, u32, .ref k33, u34, u35, .ref k36, .ref k37, .ref k38, .ref k39]), (k0, eI (ty 0) 1875 kf), (k21, eI (ty 0) 1000 (fun _ => 0))] := hD
  refine lv_istore_n (lv' := [(1, .int (-1)), (0, .ref h0)]) hx hb d_X9_goesStep_4 rfl hl (by decide) rfl (fun ls hl => ?_)
  refine lv_iload_n hx hb d_X9_goesStep_5 rfl (lv_at hl 0 rfl) ?_
  refine lv_iconst (v := (-1)) hx hb d_X9_goesStep_6 (by decide) ?_
  refine b_icmp_neF C 12 d_X9_goesStep_7 (by decide) (by decide) ?_
  refine lv_iconst (v := 0) hx hb d_X9_goesStep_10 (by decide) ?_
  exact ret_Z (w := [(h0, eO 9 [.ref k0, .ref k1, .ref k2, .ref k3, u4, .ref k5, u6, u7, u8, u9, u10, u11, u12, u13, u14, u15, u16, u17, u18, .ref k19, .ref k20, .ref k21, .ref k22, .ref k23, u24, .ref k25, .ref k26, .ref k27, u28, u29, .ref k30, .ref k31, u32, .ref k33, u34, u35, .ref k36, .ref k37, .ref k38, .ref k39]), (k0, eI (ty 0) 1875 kf), (k21, eI (ty 0) 1000 (fun _ => 0))]) C rfl hP hD hS [0, 1, 2] rfl rfl ⟨rfl, rfl⟩ (by decide) (by decide) d_X9_goesStep_11
set_option maxHeartbeats 4000000 in
set_option maxRecDepth 100000 in
theorem c_mdft (l : Launch) (D : va_G) (ty : Nat → ClassId) (h0 : Nat) (k0 : Nat) (k1 : Nat) (k2 : Nat) (k3 : Nat) (k5 : Nat) (k19 : Nat) (k20 : Nat) (k21 : Nat) (k22 : Nat) (k23 : Nat) (k25 : Nat) (k26 : Nat) (k27 : Nat) (k30 : Nat) (k31 : Nat) (k33 : Nat) (k36 : Nat) (k37 : Nat) (k38 : Nat) (k39 : Nat) (u4 : Value) (u6 : Value) (u7 : Value) (u8 : Value) (u9 : Value) (u10 : Value) (u11 : Value) (u12 : Value) (u13 : Value) (u14 : Value) (u15 : Value) (u16 : Value) (u17 : Value) (u18 : Value) (u24 : Value) (u28 : Value) (u29 : Value) (u32 : Value) (u34 : Value) (u35 : Value) (kf : Nat → Int32) (d : Nat) (a : Nat) (hkf : KF kf) (hk5 : kf 5 = nI d) : CC l D ty ⟨"PinchedBillModel", "drafts", "(I)V"⟩ prog_11_method_65_code 2 none 0 0 0 0 [.ref h0, .int (nI a)] [(h0, eO 9 [.ref k0, .ref k1, .ref k2, .ref k3, u4, .ref k5, u6, u7, u8, u9, u10, u11, u12, u13, u14, u15, u16, u17, u18, .ref k19, .ref k20, .ref k21, .ref k22, .ref k23, u24, .ref k25, .ref k26, .ref k27, u28, u29, .ref k30, .ref k31, u32, .ref k33, u34, u35, .ref k36, .ref k37, .ref k38, .ref k39]), (k0, eI (ty 0) 1875 kf)] (QV D ty (fun (w : va_W) => ∃ (kf9 : Nat → Int32), (KF kf9) ∧ (kf9 5 = nI d) ∧ (kf9 6 = nI a) ∧ w = [(h0, eO 9 [.ref k0, .ref k1, .ref k2, .ref k3, u4, .ref k5, u6, u7, u8, u9, u10, u11, u12, u13, u14, u15, u16, u17, u18, .ref k19, .ref k20, .ref k21, .ref k22, .ref k23, u24, .ref k25, .ref k26, .ref k27, u28, u29, .ref k30, .ref k31, u32, .ref k33, u34, u35, .ref k36, .ref k37, .ref k38, .ref k39]), (k0, eI (ty 0) 1875 kf9)])) := by
  refine CC_of (by decide) ?_
  intro p e s m below meth c A C hP hD hS
  obtain ⟨⟨hx, hb, hml, hown, hts⟩, hr, hlocks, hnm, hK, hE, hA, hZ⟩ := id C
  refine startW [.ref h0, .int (nI a)] 2 (nle rfl) (lv := [(0, .ref h0), (1, .int (nI a))]) rfl (fun ls hl => ?_)
  refine lv_aload_n hx hb d_X9_drafts_0 rfl (lv_at hl 0 rfl) ?_
  refine r_get (v := .ref k0) C hP 0 rfl rfl lay_X9 0 (by decide) k_1545 rfl d_X9_drafts_1 ?_
  refine lv_bipush (v := 6) hx hb d_X9_drafts_4 (by decide) ?_
  refine lv_iload_n hx hb d_X9_drafts_6 rfl (lv_at hl 1 rfl) ?_
  refine r_iast (w := [(h0, eO 9 [.ref k0, .ref k1, .ref k2, .ref k3, u4, .ref k5, u6, u7, u8, u9, u10, u11, u12, u13, u14, u15, u16, u17, u18, .ref k19, .ref k20, .ref k21, .ref k22, .ref k23, u24, .ref k25, .ref k26, .ref k27, u28, u29, .ref k30, .ref k31, u32, .ref k33, u34, u35, .ref k36, .ref k37, .ref k38, .ref k39]), (k0, eI (ty 0) 1875 (upd kf 6 (nI a)))]) C hP hD hS 1 rfl 6 rfl (by decide) (by decide) rfl d_X9_drafts_7 (fun H locs hP hD hS => ?_)
  obtain ⟨kg_1, hkg_2⟩ : ∃ g9 : Nat → Int32, upd kf 6 (nI a) = g9 := ⟨_, rfl⟩
  rw [hkg_2] at hP hD
  have hK_3 : KF kg_1 := hkg_2 ▸ KF_u hkf _ (by omega) (by omega) (by omega)
  have hk5_4 : kg_1 5 = nI d := by rw [← hkg_2, pk_un (by omega)]; exact hk5
  have hk6_5 : kg_1 6 = nI a := hkg_2 ▸ pk_us
  refine lv_aload_n hx hb d_X9_drafts_8 rfl (lv_at hl 0 rfl) ?_
  refine r_get (v := .ref k0) C hP 0 rfl rfl lay_X9 0 (by decide) k_1545 rfl d_X9_drafts_9 ?_
  refine lv_bipush (v := 7) hx hb d_X9_drafts_12 (by decide) ?_
  refine lv_iconst (v := (-1)) hx hb d_X9_drafts_14 (by decide) ?_
  refine r_iast (w := [(h0, eO 9 [.ref k0, .ref k1, .ref k2, .ref k3, u4, .ref k5, u6, u7, u8, u9, u10, u11, u12, u13, u14, u15, u16, u17, u18, .ref k19, .ref k20, .ref k21, .ref k22, .ref k23, u24, .ref k25, .ref k26, .ref k27, u28, u29, .ref k30, .ref k31, u32, .ref k33, u34, u35, .ref k36, .ref k37, .ref k38, .ref k39]), (k0, eI (ty 0) 1875 (upd kg_1 7 (-1)))]) C hP hD hS 1 rfl 7 rfl (by decide) (by decide) rfl d_X9_drafts_15 (fun H locs hP hD hS => ?_)
  obtain ⟨kg_6, hkg_7⟩ : ∃ g9 : Nat → Int32, upd kg_1 7 (-1) = g9 := ⟨_, rfl⟩
  rw [hkg_7] at hP hD
  have hK_8 : KF kg_6 := hkg_7 ▸ KF_u hK_3 _ (by omega) (by omega) (by omega)
  have hk5_9 : kg_6 5 = nI d := by rw [← hkg_7, pk_un (by omega)]; exact hk5_4
  have hk6_10 : kg_6 6 = nI a := by rw [← hkg_7, pk_un (by omega)]; exact hk6_5
  exact ret_V (w := [(h0, eO 9 [.ref k0, .ref k1, .ref k2, .ref k3, u4, .ref k5, u6, u7, u8, u9, u10, u11, u12, u13, u14, u15, u16, u17, u18, .ref k19, .ref k20, .ref k21, .ref k22, .ref k23, u24, .ref k25, .ref k26, .ref k27, u28, u29, .ref k30, .ref k31, u32, .ref k33, u34, u35, .ref k36, .ref k37, .ref k38, .ref k39]), (k0, eI (ty 0) 1875 kg_6)]) C hP hD hS [0, 1] rfl rfl ⟨kg_6, hK_8, hk5_9, hk6_10, rfl⟩ (by decide) (by decide) d_X9_drafts_16
set_option maxHeartbeats 4000000 in
set_option maxRecDepth 100000 in
theorem m_stepsT (l : Launch) (D : va_G) (ty : Nat → ClassId) (h0 : Nat) (k0 : Nat) (k1 : Nat) (k2 : Nat) (k3 : Nat) (k5 : Nat) (k19 : Nat) (k20 : Nat) (k21 : Nat) (k22 : Nat) (k23 : Nat) (k25 : Nat) (k26 : Nat) (k27 : Nat) (k30 : Nat) (k31 : Nat) (k33 : Nat) (k36 : Nat) (k37 : Nat) (k38 : Nat) (k39 : Nat) (n : Int32) (hn : ¬ n < 1 ∧ ¬ 999 < n) : CC l D ty ⟨"PinchedBillModel", "steps", "(I)I"⟩ prog_11_method_66_code 3 (some .int) 3 66 0 0 [.ref h0, .int n] [(h0, eO 9 [.ref k0, .ref k1, .ref k2, .ref k3, .int 0, .ref k5, .int 0, .int 0, .int 0, .int 0, .int 0, .int 0, .int 0, .int 0, .int 0, .int (-1), .int 0, .int 0, .int 0, .ref k19, .ref k20, .ref k21, .ref k22, .ref k23, .int 0, .ref k25, .ref k26, .ref k27, .int 0, .int 0, .ref k30, .ref k31, .int 0, .ref k33, .int 0, .int 0, .ref k36, .ref k37, .ref k38, .ref k39]), (k0, eI (ty 0) 1875 knF), (k21, eI (ty 0) 1000 (fun _ => 0))] (QI D ty (fun (r : Int32) (w : va_W) => ∃ (w6 : Value) (w7 : Value) (w8 : Value) (w9 : Value) (w10 : Value) (w11 : Value) (w12 : Value) (w13 : Value) (w14 : Value) (w15 : Value) (w16 : Value) (w17 : Value) (w18 : Value) (w24 : Value) (w28 : Value) (w29 : Value) (w32 : Value) (w34 : Value) (w35 : Value), 0 = r ∧ w = [(h0, eO 9 [.ref k0, .ref k1, .ref k2, .ref k3, .int 0, .ref k5, w6, w7, w8, w9, w10, w11, w12, w13, w14, w15, w16, w17, w18, .ref k19, .ref k20, .ref k21, .ref k22, .ref k23, w24, .ref k25, .ref k26, .ref k27, w28, w29, .ref k30, .ref k31, w32, .ref k33, w34, w35, .ref k36, .ref k37, .ref k38, .ref k39])])) := by
  refine CC_of (by decide) ?_
  intro p e s m below meth c A C hP hD hS
  obtain ⟨⟨hx, hb, hml, hown, hts⟩, hr, hlocks, hnm, hK, hE, hA, hZ⟩ := id C
  refine startW [.ref h0, .int n] 3 (nle rfl) (lv := [(0, .ref h0), (1, .int n)]) rfl (fun ls hl => ?_)
  refine lv_aload_n hx hb d_X9_steps_0 rfl (lv_at hl 0 rfl) ?_
  refine lv_iconst (v := 0) hx hb d_X9_steps_1 (by decide) ?_
  refine r_put (w := [(h0, eO 9 [.ref k0, .ref k1, .ref k2, .ref k3, .int 0, .ref k5, .int 0, .int 0, .int 0, .int 0, .int 0, .int 0, .int 0, .int 0, .int 0, .int (-1), .int 0, .int 0, .int 0, .ref k19, .ref k20, .ref k21, .ref k22, .ref k23, .int 0, .ref k25, .ref k26, .ref k27, .int 0, .int 0, .ref k30, .ref k31, .int 0, .ref k33, .int 0, .int 0, .ref k36, .ref k37, .ref k38, .ref k39]), (k0, eI (ty 0) 1875 knF), (k21, eI (ty 0) 1000 (fun _ => 0))]) C hP hD hS 0 rfl rfl lay_X9 tok_X9 nmo_X9 4 (by decide) k_1549 rfl rfl rfl (nle rfl) rfl d_X9_steps_2 (fun H locs hP hD hS => ?_)
  refine lv_iload_n hx hb d_X9_steps_5 rfl (lv_at hl 1 rfl) ?_
  refine lv_i2l (v := (n).toInt64) hx hb d_X9_steps_6 rfl ?_
  refine lv_lconst (v := 1) hx hb d_X9_steps_7 (by decide) ?_
  refine lv_ldc2 hx hb hown (hts _ k_1852) d_X9_steps_8 ?_
  have ct_1 : Cut [(h0, eO 9 [.ref k0, .ref k1, .ref k2, .ref k3, .int 0, .ref k5, .int 0, .int 0, .int 0, .int 0, .int 0, .int 0, .int 0, .int 0, .int 0, .int (-1), .int 0, .int 0, .int 0, .ref k19, .ref k20, .ref k21, .ref k22, .ref k23, .int 0, .ref k25, .ref k26, .ref k27, .int 0, .int 0, .ref k30, .ref k31, .int 0, .ref k33, .int 0, .int 0, .ref k36, .ref k37, .ref k38, .ref k39]), (k0, eI (ty 0) 1875 knF), (k21, eI (ty 0) 1000 (fun _ => 0))] [] [(h0, eO 9 [.ref k0, .ref k1, .ref k2, .ref k3, .int 0, .ref k5, .int 0, .int 0, .int 0, .int 0, .int 0, .int 0, .int 0, .int 0, .int 0, .int (-1), .int 0, .int 0, .int 0, .ref k19, .ref k20, .ref k21, .ref k22, .ref k23, .int 0, .ref k25, .ref k26, .ref k27, .int 0, .int 0, .ref k30, .ref k31, .int 0, .ref k33, .int 0, .int 0, .ref k36, .ref k37, .ref k38, .ref k39]), (k0, eI (ty 0) 1875 knF), (k21, eI (ty 0) 1000 (fun _ => 0))] [] [0, 1, 2] := ⟨rfl, rfl, rfl, rfl, by decide⟩
  refine cont_I C hP hD hS ct_1 (run_S (As := [.long (n).toInt64, .long 1, .long 999]) (rest := []) C hP hD hS ct_1 (c_mwi l D ty ((n).toInt64) 1 999) kS_PinchedBillModel_140 rfl hl.1 rfl (nle rfl) d_X9_steps_11 ⟨by decide, by decide, by decide, by decide⟩) (fun r_3 w_4 H locs hw_2 hP hD hS => ?_)
  obtain ⟨rfl, rfl⟩ := hw_2
  have hP : va_P D vwCl [(h0, eO 9 [.ref k0, .ref k1, .ref k2, .ref k3, .int 0, .ref k5, .int 0, .int 0, .int 0, .int 0, .int 0, .int 0, .int 0, .int 0, .int 0, .int (-1), .int 0, .int 0, .int 0, .ref k19, .ref k20, .ref k21, .ref k22, .ref k23, .int 0, .ref k25, .ref k26, .ref k27, .int 0, .int 0, .ref k30, .ref k31, .int 0, .ref k33, .int 0, .int 0, .ref k36, .ref k37, .ref k38, .ref k39]), (k0, eI (ty 0) 1875 knF), (k21, eI (ty 0) 1000 (fun _ => 0))] H := hP
  have hD : va_D A [(h0, eO 9 [.ref k0, .ref k1, .ref k2, .ref k3, .int 0, .ref k5, .int 0, .int 0, .int 0, .int 0, .int 0, .int 0, .int 0, .int 0, .int 0, .int (-1), .int 0, .int 0, .int 0, .ref k19, .ref k20, .ref k21, .ref k22, .ref k23, .int 0, .ref k25, .ref k26, .ref k27, .int 0, .int 0, .ref k30, .ref k31, .int 0, .ref k33, .int 0, .int 0, .ref k36, .ref k37, .ref k38, .ref k39]), (k0, eI (ty 0) 1875 knF), (k21, eI (ty 0) 1000 (fun _ => 0))] := hD
  refine topeq (z := 1) (wiP (n := n) (lo := 1) (hi := 999) rfl rfl rfl hn) ?_
  refine b_if_neT C 23 d_X9_steps_14 (by decide) (by decide) ?_
  refine lv_aload_n hx hb d_X9_steps_23 rfl (lv_at hl 0 rfl) ?_
  have ct_5 : Cut [(h0, eO 9 [.ref k0, .ref k1, .ref k2, .ref k3, .int 0, .ref k5, .int 0, .int 0, .int 0, .int 0, .int 0, .int 0, .int 0, .int 0, .int 0, .int (-1), .int 0, .int 0, .int 0, .ref k19, .ref k20, .ref k21, .ref k22, .ref k23, .int 0, .ref k25, .ref k26, .ref k27, .int 0, .int 0, .ref k30, .ref k31, .int 0, .ref k33, .int 0, .int 0, .ref k36, .ref k37, .ref k38, .ref k39]), (k0, eI (ty 0) 1875 knF), (k21, eI (ty 0) 1000 (fun _ => 0))] [(h0, eO 9 [.ref k0, .ref k1, .ref k2, .ref k3, .int 0, .ref k5, .int 0, .int 0, .int 0, .int 0, .int 0, .int 0, .int 0, .int 0, .int 0, .int (-1), .int 0, .int 0, .int 0, .ref k19, .ref k20, .ref k21, .ref k22, .ref k23, .int 0, .ref k25, .ref k26, .ref k27, .int 0, .int 0, .ref k30, .ref k31, .int 0, .ref k33, .int 0, .int 0, .ref k36, .ref k37, .ref k38, .ref k39]), (k0, eI (ty 0) 1875 knF)] [(k21, eI (ty 0) 1000 (fun _ => 0))] [0, 1] [2] := ⟨rfl, rfl, rfl, rfl, by decide⟩
  refine cont_V C hP hD hS ct_5 (run_V (As := []) (rest := []) C hP hD hS ct_5 (c_mkeeps l D ty h0 k0 k1 k2 k3 k5 k19 k20 k21 k22 k23 k25 k26 k27 k30 k31 k33 k36 k37 k38 k39 (.int 0) (.int 0) (.int 0) (.int 0) (.int 0) (.int 0) (.int 0) (.int 0) (.int 0) (.int 0) (.int (-1)) (.int 0) (.int 0) (.int 0) (.int 0) (.int 0) (.int 0) (.int 0) (.int 0) (.int 0) knF 0 0 KF_0 rfl (by omega) rfl) kV_PinchedBillModel_329 0 rfl rfl rfl rfl hl.1 rfl (nle rfl) d_X9_steps_24 ⟨by decide, by decide, by decide, by decide⟩) (fun w_10 H locs hw_8 hP hD hS => ?_)
  obtain ⟨kf9_6, d9_7, hkf9_11, hk59_12, hd9_13, hk69_14, rfl⟩ := hw_8
  have hP : va_P D vwCl [(k21, eI (ty 0) 1000 (fun _ => 0)), (h0, eO 9 [.ref k0, .ref k1, .ref k2, .ref k3, .int 0, .ref k5, .int 0, .int 0, .int 0, .int 0, .int 0, .int 0, .int 0, .int 0, .int 0, .int (-1), .int 0, .int 0, .int 0, .ref k19, .ref k20, .ref k21, .ref k22, .ref k23, .int 0, .ref k25, .ref k26, .ref k27, .int 0, .int 0, .ref k30, .ref k31, .int 0, .ref k33, .int 0, .int 0, .ref k36, .ref k37, .ref k38, .ref k39]), (k0, eI (ty 0) 1875 kf9_6)] H := hP
  have hD : va_D A [(k21, eI (ty 0) 1000 (fun _ => 0)), (h0, eO 9 [.ref k0, .ref k1, .ref k2, .ref k3, .int 0, .ref k5, .int 0, .int 0, .int 0, .int 0, .int 0, .int 0, .int 0, .int 0, .int 0, .int (-1), .int 0, .int 0, .int 0, .ref k19, .ref k20, .ref k21, .ref k22, .ref k23, .int 0, .ref k25, .ref k26, .ref k27, .int 0, .int 0, .ref k30, .ref k31, .int 0, .ref k33, .int 0, .int 0, .ref k36, .ref k37, .ref k38, .ref k39]), (k0, eI (ty 0) 1875 kf9_6)] := hD
  refine lv_iconst (v := 0) hx hb d_X9_steps_27 (by decide) ?_
  refine lv_istore_n (lv' := [(2, .int 0), (0, .ref h0), (1, .int n)]) hx hb d_X9_steps_28 rfl hl (by decide) rfl (fun ls hl => ?_)
  refine lv_iload_n hx hb d_X9_steps_29 rfl (lv_at hl 0 rfl) ?_
  refine lv_iload_n hx hb d_X9_steps_30 rfl (lv_at hl 2 rfl) ?_
  refine lv_icmp_ge (tgt := 47) hx hb d_X9_steps_31 (by decide) (fun hc_15 => ?_) (fun hc_15 => ?_)
  · refine lv_iload_n hx hb d_X9_steps_47 rfl (lv_at hl 0 rfl) ?_
    exact ret_I (w := [(h0, eO 9 [.ref k0, .ref k1, .ref k2, .ref k3, .int 0, .ref k5, .int 0, .int 0, .int 0, .int 0, .int 0, .int 0, .int 0, .int 0, .int 0, .int (-1), .int 0, .int 0, .int 0, .ref k19, .ref k20, .ref k21, .ref k22, .ref k23, .int 0, .ref k25, .ref k26, .ref k27, .int 0, .int 0, .ref k30, .ref k31, .int 0, .ref k33, .int 0, .int 0, .ref k36, .ref k37, .ref k38, .ref k39])]) C hP hD hS [1] rfl rfl ⟨(.int 0), (.int 0), (.int 0), (.int 0), (.int 0), (.int 0), (.int 0), (.int 0), (.int 0), (.int (-1)), (.int 0), (.int 0), (.int 0), (.int 0), (.int 0), (.int 0), (.int 0), (.int 0), (.int 0), rfl, rfl⟩ (by decide) (by decide) d_X9_steps_48
  · refine lv_aload_n hx hb d_X9_steps_34 rfl (lv_at hl 1 rfl) ?_
    have ct_16 : Cut [(k21, eI (ty 0) 1000 (fun _ => 0)), (h0, eO 9 [.ref k0, .ref k1, .ref k2, .ref k3, .int 0, .ref k5, .int 0, .int 0, .int 0, .int 0, .int 0, .int 0, .int 0, .int 0, .int 0, .int (-1), .int 0, .int 0, .int 0, .ref k19, .ref k20, .ref k21, .ref k22, .ref k23, .int 0, .ref k25, .ref k26, .ref k27, .int 0, .int 0, .ref k30, .ref k31, .int 0, .ref k33, .int 0, .int 0, .ref k36, .ref k37, .ref k38, .ref k39]), (k0, eI (ty 0) 1875 kf9_6)] [(h0, eO 9 [.ref k0, .ref k1, .ref k2, .ref k3, .int 0, .ref k5, .int 0, .int 0, .int 0, .int 0, .int 0, .int 0, .int 0, .int 0, .int 0, .int (-1), .int 0, .int 0, .int 0, .ref k19, .ref k20, .ref k21, .ref k22, .ref k23, .int 0, .ref k25, .ref k26, .ref k27, .int 0, .int 0, .ref k30, .ref k31, .int 0, .ref k33, .int 0, .int 0, .ref k36, .ref k37, .ref k38, .ref k39]), (k0, eI (ty 0) 1875 kf9_6), (k21, eI (ty 0) 1000 (fun _ => 0))] [] [1, 2, 0] [] := ⟨rfl, rfl, rfl, rfl, by decide⟩
    refine cont_I C hP hD hS ct_16 (run_V (As := []) (rest := []) C hP hD hS ct_16 (c_mgs l D ty h0 k0 k1 k2 k3 k5 k19 k20 k21 k22 k23 k25 k26 k27 k30 k31 k33 k36 k37 k38 k39 (.int 0) (.int 0) (.int 0) (.int 0) (.int 0) (.int 0) (.int 0) (.int 0) (.int 0) (.int 0) (.int (-1)) (.int 0) (.int 0) (.int 0) (.int 0) (.int 0) (.int 0) (.int 0) (.int 0) (.int 0) kf9_6 0 hkf9_11 (by omega) hk69_14) kV_PinchedBillModel_332 1 rfl rfl rfl rfl hl.1 rfl (nle rfl) d_X9_steps_35 ⟨by decide, by decide, by decide, by decide⟩) (fun r_18 w_19 H locs hw_17 hP hD hS => ?_)
    obtain ⟨rfl, rfl⟩ := hw_17
    have hP : va_P D vwCl [(h0, eO 9 [.ref k0, .ref k1, .ref k2, .ref k3, .int 0, .ref k5, .int 0, .int 0, .int 0, .int 0, .int 0, .int 0, .int 0, .int 0, .int 0, .int (-1), .int 0, .int 0, .int 0, .ref k19, .ref k20, .ref k21, .ref k22, .ref k23, .int 0, .ref k25, .ref k26, .ref k27, .int 0, .int 0, .ref k30, .ref k31, .int 0, .ref k33, .int 0, .int 0, .ref k36, .ref k37, .ref k38, .ref k39]), (k0, eI (ty 0) 1875 kf9_6), (k21, eI (ty 0) 1000 (fun _ => 0))] H := hP
    have hD : va_D A [(h0, eO 9 [.ref k0, .ref k1, .ref k2, .ref k3, .int 0, .ref k5, .int 0, .int 0, .int 0, .int 0, .int 0, .int 0, .int 0, .int 0, .int 0, .int (-1), .int 0, .int 0, .int 0, .ref k19, .ref k20, .ref k21, .ref k22, .ref k23, .int 0, .ref k25, .ref k26, .ref k27, .int 0, .int 0, .ref k30, .ref k31, .int 0, .ref k33, .int 0, .int 0, .ref k36, .ref k37, .ref k38, .ref k39]), (k0, eI (ty 0) 1875 kf9_6), (k21, eI (ty 0) 1000 (fun _ => 0))] := hD
    refine b_if_eqT C 47 d_X9_steps_38 (by decide) (by decide) ?_
    refine lv_iload_n hx hb d_X9_steps_47 rfl (lv_at hl 0 rfl) ?_
    exact ret_I (w := [(h0, eO 9 [.ref k0, .ref k1, .ref k2, .ref k3, .int 0, .ref k5, .int 0, .int 0, .int 0, .int 0, .int 0, .int 0, .int 0, .int 0, .int 0, .int (-1), .int 0, .int 0, .int 0, .ref k19, .ref k20, .ref k21, .ref k22, .ref k23, .int 0, .ref k25, .ref k26, .ref k27, .int 0, .int 0, .ref k30, .ref k31, .int 0, .ref k33, .int 0, .int 0, .ref k36, .ref k37, .ref k38, .ref k39])]) C hP hD hS [0] rfl rfl ⟨(.int 0), (.int 0), (.int 0), (.int 0), (.int 0), (.int 0), (.int 0), (.int 0), (.int 0), (.int (-1)), (.int 0), (.int 0), (.int 0), (.int 0), (.int 0), (.int 0), (.int 0), (.int 0), (.int 0), rfl, rfl⟩ (by decide) (by decide) d_X9_steps_48
set_option maxHeartbeats 4000000 in
set_option maxRecDepth 100000 in
theorem m_stepsF (l : Launch) (D : va_G) (ty : Nat → ClassId) (h0 : Nat) (k0 : Nat) (k1 : Nat) (k2 : Nat) (k3 : Nat) (k5 : Nat) (k19 : Nat) (k20 : Nat) (k21 : Nat) (k22 : Nat) (k23 : Nat) (k25 : Nat) (k26 : Nat) (k27 : Nat) (k30 : Nat) (k31 : Nat) (k33 : Nat) (k36 : Nat) (k37 : Nat) (k38 : Nat) (k39 : Nat) (n : Int32) (hnp : ¬ ((¬ n < 1 ∧ ¬ 999 < n))) : CC l D ty ⟨"PinchedBillModel", "steps", "(I)I"⟩ prog_11_method_66_code 3 (some .int) 1 25 0 0 [.ref h0, .int n] [(h0, eO 9 [.ref k0, .ref k1, .ref k2, .ref k3, .int 0, .ref k5, .int 0, .int 0, .int 0, .int 0, .int 0, .int 0, .int 0, .int 0, .int 0, .int (-1), .int 0, .int 0, .int 0, .ref k19, .ref k20, .ref k21, .ref k22, .ref k23, .int 0, .ref k25, .ref k26, .ref k27, .int 0, .int 0, .ref k30, .ref k31, .int 0, .ref k33, .int 0, .int 0, .ref k36, .ref k37, .ref k38, .ref k39]), (k0, eI (ty 0) 1875 knF), (k21, eI (ty 0) 1000 (fun _ => 0))] (QI D ty (fun (r : Int32) (w : va_W) => ∃ (w6 : Value) (w7 : Value) (w8 : Value) (w9 : Value) (w10 : Value) (w11 : Value) (w12 : Value) (w13 : Value) (w14 : Value) (w15 : Value) (w16 : Value) (w17 : Value) (w18 : Value) (w24 : Value) (w28 : Value) (w29 : Value) (w32 : Value) (w34 : Value) (w35 : Value), 0 = r ∧ w = [(h0, eO 9 [.ref k0, .ref k1, .ref k2, .ref k3, .int 1, .ref k5, w6, w7, w8, w9, w10, w11, w12, w13, w14, w15, w16, w17, w18, .ref k19, .ref k20, .ref k21, .ref k22, .ref k23, w24, .ref k25, .ref k26, .ref k27, w28, w29, .ref k30, .ref k31, w32, .ref k33, w34, w35, .ref k36, .ref k37, .ref k38, .ref k39])])) := by
  refine CC_of (by decide) ?_
  intro p e s m below meth c A C hP hD hS
  obtain ⟨⟨hx, hb, hml, hown, hts⟩, hr, hlocks, hnm, hK, hE, hA, hZ⟩ := id C
  refine startW [.ref h0, .int n] 3 (nle rfl) (lv := [(0, .ref h0), (1, .int n)]) rfl (fun ls hl => ?_)
  have hq_1 : ¬ (¬ n < 1 ∧ ¬ 999 < n) := fun h9 => hnp h9
  have hgo9 := trivial
  refine lv_aload_n hx hb d_X9_steps_0 rfl (lv_at hl 0 rfl) ?_
  refine lv_iconst (v := 0) hx hb d_X9_steps_1 (by decide) ?_
  refine r_put (w := [(h0, eO 9 [.ref k0, .ref k1, .ref k2, .ref k3, .int 0, .ref k5, .int 0, .int 0, .int 0, .int 0, .int 0, .int 0, .int 0, .int 0, .int 0, .int (-1), .int 0, .int 0, .int 0, .ref k19, .ref k20, .ref k21, .ref k22, .ref k23, .int 0, .ref k25, .ref k26, .ref k27, .int 0, .int 0, .ref k30, .ref k31, .int 0, .ref k33, .int 0, .int 0, .ref k36, .ref k37, .ref k38, .ref k39]), (k0, eI (ty 0) 1875 knF), (k21, eI (ty 0) 1000 (fun _ => 0))]) C hP hD hS 0 rfl rfl lay_X9 tok_X9 nmo_X9 4 (by decide) k_1549 rfl rfl rfl (nle rfl) rfl d_X9_steps_2 (fun H locs hP hD hS => ?_)
  refine lv_iload_n hx hb d_X9_steps_5 rfl (lv_at hl 1 rfl) ?_
  refine lv_i2l (v := (n).toInt64) hx hb d_X9_steps_6 rfl ?_
  refine lv_lconst (v := 1) hx hb d_X9_steps_7 (by decide) ?_
  refine lv_ldc2 hx hb hown (hts _ k_1852) d_X9_steps_8 ?_
  have ct_2 : Cut [(h0, eO 9 [.ref k0, .ref k1, .ref k2, .ref k3, .int 0, .ref k5, .int 0, .int 0, .int 0, .int 0, .int 0, .int 0, .int 0, .int 0, .int 0, .int (-1), .int 0, .int 0, .int 0, .ref k19, .ref k20, .ref k21, .ref k22, .ref k23, .int 0, .ref k25, .ref k26, .ref k27, .int 0, .int 0, .ref k30, .ref k31, .int 0, .ref k33, .int 0, .int 0, .ref k36, .ref k37, .ref k38, .ref k39]), (k0, eI (ty 0) 1875 knF), (k21, eI (ty 0) 1000 (fun _ => 0))] [] [(h0, eO 9 [.ref k0, .ref k1, .ref k2, .ref k3, .int 0, .ref k5, .int 0, .int 0, .int 0, .int 0, .int 0, .int 0, .int 0, .int 0, .int 0, .int (-1), .int 0, .int 0, .int 0, .ref k19, .ref k20, .ref k21, .ref k22, .ref k23, .int 0, .ref k25, .ref k26, .ref k27, .int 0, .int 0, .ref k30, .ref k31, .int 0, .ref k33, .int 0, .int 0, .ref k36, .ref k37, .ref k38, .ref k39]), (k0, eI (ty 0) 1875 knF), (k21, eI (ty 0) 1000 (fun _ => 0))] [] [0, 1, 2] := ⟨rfl, rfl, rfl, rfl, by decide⟩
  refine cont_I C hP hD hS ct_2 (run_S (As := [.long (n).toInt64, .long 1, .long 999]) (rest := []) C hP hD hS ct_2 (c_mwi l D ty ((n).toInt64) 1 999) kS_PinchedBillModel_140 rfl hl.1 rfl (nle rfl) d_X9_steps_11 ⟨by decide, by decide, by decide, by decide⟩) (fun r_4 w_5 H locs hw_3 hP hD hS => ?_)
  obtain ⟨rfl, rfl⟩ := hw_3
  have hP : va_P D vwCl [(h0, eO 9 [.ref k0, .ref k1, .ref k2, .ref k3, .int 0, .ref k5, .int 0, .int 0, .int 0, .int 0, .int 0, .int 0, .int 0, .int 0, .int 0, .int (-1), .int 0, .int 0, .int 0, .ref k19, .ref k20, .ref k21, .ref k22, .ref k23, .int 0, .ref k25, .ref k26, .ref k27, .int 0, .int 0, .ref k30, .ref k31, .int 0, .ref k33, .int 0, .int 0, .ref k36, .ref k37, .ref k38, .ref k39]), (k0, eI (ty 0) 1875 knF), (k21, eI (ty 0) 1000 (fun _ => 0))] H := hP
  have hD : va_D A [(h0, eO 9 [.ref k0, .ref k1, .ref k2, .ref k3, .int 0, .ref k5, .int 0, .int 0, .int 0, .int 0, .int 0, .int 0, .int 0, .int 0, .int 0, .int (-1), .int 0, .int 0, .int 0, .ref k19, .ref k20, .ref k21, .ref k22, .ref k23, .int 0, .ref k25, .ref k26, .ref k27, .int 0, .int 0, .ref k30, .ref k31, .int 0, .ref k33, .int 0, .int 0, .ref k36, .ref k37, .ref k38, .ref k39]), (k0, eI (ty 0) 1875 knF), (k21, eI (ty 0) 1000 (fun _ => 0))] := hD
  refine topeq (z := 0) (wiQ (n := n) (lo := 1) (hi := 999) rfl rfl rfl hq_1) ?_
  refine b_if_neF C 23 d_X9_steps_14 (by decide) (by decide) ?_
  refine lv_aload_n hx hb d_X9_steps_17 rfl (lv_at hl 0 rfl) ?_
  refine lv_iconst (v := 1) hx hb d_X9_steps_18 (by decide) ?_
  have ct_6 : Cut [(h0, eO 9 [.ref k0, .ref k1, .ref k2, .ref k3, .int 0, .ref k5, .int 0, .int 0, .int 0, .int 0, .int 0, .int 0, .int 0, .int 0, .int 0, .int (-1), .int 0, .int 0, .int 0, .ref k19, .ref k20, .ref k21, .ref k22, .ref k23, .int 0, .ref k25, .ref k26, .ref k27, .int 0, .int 0, .ref k30, .ref k31, .int 0, .ref k33, .int 0, .int 0, .ref k36, .ref k37, .ref k38, .ref k39]), (k0, eI (ty 0) 1875 knF), (k21, eI (ty 0) 1000 (fun _ => 0))] [(h0, eO 9 [.ref k0, .ref k1, .ref k2, .ref k3, .int 0, .ref k5, .int 0, .int 0, .int 0, .int 0, .int 0, .int 0, .int 0, .int 0, .int 0, .int (-1), .int 0, .int 0, .int 0, .ref k19, .ref k20, .ref k21, .ref k22, .ref k23, .int 0, .ref k25, .ref k26, .ref k27, .int 0, .int 0, .ref k30, .ref k31, .int 0, .ref k33, .int 0, .int 0, .ref k36, .ref k37, .ref k38, .ref k39])] [(k0, eI (ty 0) 1875 knF), (k21, eI (ty 0) 1000 (fun _ => 0))] [0] [1, 2] := ⟨rfl, rfl, rfl, rfl, by decide⟩
  refine cont_I C hP hD hS ct_6 (run_V (As := [.int 1]) (rest := []) C hP hD hS ct_6 (c_fails l D ty h0 k0 k1 k2 k3 k5 k19 k20 k21 k22 k23 k25 k26 k27 k30 k31 k33 k36 k37 k38 k39 (.int 0) (.int 0) (.int 0) (.int 0) (.int 0) (.int 0) (.int 0) (.int 0) (.int 0) (.int 0) (.int (-1)) (.int 0) (.int 0) (.int 0) (.int 0) (.int 0) (.int 0) (.int 0) (.int 0) (.int 0) 1) kV_PinchedBillModel_242 0 rfl rfl rfl rfl hl.1 rfl (nle rfl) d_X9_steps_19 ⟨by decide, by decide, by decide, by decide⟩) (fun r_8 w_9 H locs hw_7 hP hD hS => ?_)
  obtain ⟨rfl, rfl⟩ := hw_7
  have hP : va_P D vwCl [(k0, eI (ty 0) 1875 knF), (k21, eI (ty 0) 1000 (fun _ => 0)), (h0, eO 9 [.ref k0, .ref k1, .ref k2, .ref k3, .int 1, .ref k5, .int 0, .int 0, .int 0, .int 0, .int 0, .int 0, .int 0, .int 0, .int 0, .int (-1), .int 0, .int 0, .int 0, .ref k19, .ref k20, .ref k21, .ref k22, .ref k23, .int 0, .ref k25, .ref k26, .ref k27, .int 0, .int 0, .ref k30, .ref k31, .int 0, .ref k33, .int 0, .int 0, .ref k36, .ref k37, .ref k38, .ref k39])] H := hP
  have hD : va_D A [(k0, eI (ty 0) 1875 knF), (k21, eI (ty 0) 1000 (fun _ => 0)), (h0, eO 9 [.ref k0, .ref k1, .ref k2, .ref k3, .int 1, .ref k5, .int 0, .int 0, .int 0, .int 0, .int 0, .int 0, .int 0, .int 0, .int 0, .int (-1), .int 0, .int 0, .int 0, .ref k19, .ref k20, .ref k21, .ref k22, .ref k23, .int 0, .ref k25, .ref k26, .ref k27, .int 0, .int 0, .ref k30, .ref k31, .int 0, .ref k33, .int 0, .int 0, .ref k36, .ref k37, .ref k38, .ref k39])] := hD
  exact ret_I (w := [(h0, eO 9 [.ref k0, .ref k1, .ref k2, .ref k3, .int 1, .ref k5, .int 0, .int 0, .int 0, .int 0, .int 0, .int 0, .int 0, .int 0, .int 0, .int (-1), .int 0, .int 0, .int 0, .ref k19, .ref k20, .ref k21, .ref k22, .ref k23, .int 0, .ref k25, .ref k26, .ref k27, .int 0, .int 0, .ref k30, .ref k31, .int 0, .ref k33, .int 0, .int 0, .ref k36, .ref k37, .ref k38, .ref k39])]) C hP hD hS [2] rfl rfl ⟨(.int 0), (.int 0), (.int 0), (.int 0), (.int 0), (.int 0), (.int 0), (.int 0), (.int 0), (.int (-1)), (.int 0), (.int 0), (.int 0), (.int 0), (.int 0), (.int 0), (.int 0), (.int 0), (.int 0), rfl, rfl⟩ (by decide) (by decide) d_X9_steps_22
set_option maxHeartbeats 4000000 in
set_option maxRecDepth 100000 in
theorem m_draftT (l : Launch) (D : va_G) (ty : Nat → ClassId) (h0 : Nat) (k0 : Nat) (k1 : Nat) (k2 : Nat) (k3 : Nat) (k5 : Nat) (k19 : Nat) (k20 : Nat) (k21 : Nat) (k22 : Nat) (k23 : Nat) (k25 : Nat) (k26 : Nat) (k27 : Nat) (k30 : Nat) (k31 : Nat) (k33 : Nat) (k36 : Nat) (k37 : Nat) (k38 : Nat) (k39 : Nat) (jb : Nat) (hjb : jb < 10) : CC l D ty ⟨"PinchedBillModel", "draft", "(I)I"⟩ prog_11_method_67_code 3 (some .int) 3 62 0 0 [.ref h0, .int (nI (100 * jb))] [(h0, eO 9 [.ref k0, .ref k1, .ref k2, .ref k3, .int 0, .ref k5, .int 0, .int 0, .int 0, .int 0, .int 0, .int 0, .int 0, .int 0, .int 0, .int (-1), .int 0, .int 0, .int 0, .ref k19, .ref k20, .ref k21, .ref k22, .ref k23, .int 0, .ref k25, .ref k26, .ref k27, .int 0, .int 0, .ref k30, .ref k31, .int 0, .ref k33, .int 0, .int 0, .ref k36, .ref k37, .ref k38, .ref k39]), (k0, eI (ty 0) 1875 knF), (k21, eI (ty 0) 1000 (fun _ => 0))] (QI D ty (fun (r : Int32) (w : va_W) => 0 = r ∧ w = [])) := by
  refine CC_of (by decide) ?_
  intro p e s m below meth c A C hP hD hS
  obtain ⟨⟨hx, hb, hml, hown, hts⟩, hr, hlocks, hnm, hK, hE, hA, hZ⟩ := id C
  refine startW [.ref h0, .int (nI (100 * jb))] 3 (nle rfl) (lv := [(0, .ref h0), (1, .int (nI (100 * jb)))]) rfl (fun ls hl => ?_)
  refine lv_aload_n hx hb d_X9_draft_0 rfl (lv_at hl 0 rfl) ?_
  refine lv_iconst (v := 0) hx hb d_X9_draft_1 (by decide) ?_
  refine r_put (w := [(h0, eO 9 [.ref k0, .ref k1, .ref k2, .ref k3, .int 0, .ref k5, .int 0, .int 0, .int 0, .int 0, .int 0, .int 0, .int 0, .int 0, .int 0, .int (-1), .int 0, .int 0, .int 0, .ref k19, .ref k20, .ref k21, .ref k22, .ref k23, .int 0, .ref k25, .ref k26, .ref k27, .int 0, .int 0, .ref k30, .ref k31, .int 0, .ref k33, .int 0, .int 0, .ref k36, .ref k37, .ref k38, .ref k39]), (k0, eI (ty 0) 1875 knF), (k21, eI (ty 0) 1000 (fun _ => 0))]) C hP hD hS 0 rfl rfl lay_X9 tok_X9 nmo_X9 4 (by decide) k_1549 rfl rfl rfl (nle rfl) rfl d_X9_draft_2 (fun H locs hP hD hS => ?_)
  refine lv_aload_n hx hb d_X9_draft_5 rfl (lv_at hl 0 rfl) ?_
  refine lv_iload_n hx hb d_X9_draft_6 rfl (lv_at hl 1 rfl) ?_
  refine lv_i2l (v := (lN (100 * jb))) hx hb d_X9_draft_7 (nI_l (by omega)) ?_
  have ct_1 : Cut [(h0, eO 9 [.ref k0, .ref k1, .ref k2, .ref k3, .int 0, .ref k5, .int 0, .int 0, .int 0, .int 0, .int 0, .int 0, .int 0, .int 0, .int 0, .int (-1), .int 0, .int 0, .int 0, .ref k19, .ref k20, .ref k21, .ref k22, .ref k23, .int 0, .ref k25, .ref k26, .ref k27, .int 0, .int 0, .ref k30, .ref k31, .int 0, .ref k33, .int 0, .int 0, .ref k36, .ref k37, .ref k38, .ref k39]), (k0, eI (ty 0) 1875 knF), (k21, eI (ty 0) 1000 (fun _ => 0))] [(h0, eO 9 [.ref k0, .ref k1, .ref k2, .ref k3, .int 0, .ref k5, .int 0, .int 0, .int 0, .int 0, .int 0, .int 0, .int 0, .int 0, .int 0, .int (-1), .int 0, .int 0, .int 0, .ref k19, .ref k20, .ref k21, .ref k22, .ref k23, .int 0, .ref k25, .ref k26, .ref k27, .int 0, .int 0, .ref k30, .ref k31, .int 0, .ref k33, .int 0, .int 0, .ref k36, .ref k37, .ref k38, .ref k39]), (k0, eI (ty 0) 1875 knF)] [(k21, eI (ty 0) 1000 (fun _ => 0))] [0, 1] [2] := ⟨rfl, rfl, rfl, rfl, by decide⟩
  refine cont_I C hP hD hS ct_1 (run_V (As := [.long (lN (100 * jb))]) (rest := []) C hP hD hS ct_1 (c_mbillT l D ty h0 k0 k1 k2 k3 k5 k19 k20 k21 k22 k23 k25 k26 k27 k30 k31 k33 k36 k37 k38 k39 (.int 0) (.int 0) (.int 0) (.int 0) (.int 0) (.int 0) (.int 0) (.int 0) (.int 0) (.int 0) (.int (-1)) (.int 0) (.int 0) (.int 0) (.int 0) (.int 0) (.int 0) (.int 0) (.int 0) (.int 0) knF jb KF_0 hjb) kV_PinchedBillModel_326 0 rfl rfl rfl rfl hl.1 rfl (nle rfl) d_X9_draft_8 ⟨by decide, by decide, by decide, by decide⟩) (fun r_3 w_4 H locs hw_2 hP hD hS => ?_)
  obtain ⟨rfl, rfl⟩ := hw_2
  have hP : va_P D vwCl [(k21, eI (ty 0) 1000 (fun _ => 0)), (h0, eO 9 [.ref k0, .ref k1, .ref k2, .ref k3, .int 0, .ref k5, .int 0, .int 0, .int 0, .int 0, .int 0, .int 0, .int 0, .int 0, .int 0, .int (-1), .int 0, .int 0, .int 0, .ref k19, .ref k20, .ref k21, .ref k22, .ref k23, .int 0, .ref k25, .ref k26, .ref k27, .int 0, .int 0, .ref k30, .ref k31, .int 0, .ref k33, .int 0, .int 0, .ref k36, .ref k37, .ref k38, .ref k39]), (k0, eI (ty 0) 1875 knF)] H := hP
  have hD : va_D A [(k21, eI (ty 0) 1000 (fun _ => 0)), (h0, eO 9 [.ref k0, .ref k1, .ref k2, .ref k3, .int 0, .ref k5, .int 0, .int 0, .int 0, .int 0, .int 0, .int 0, .int 0, .int 0, .int 0, .int (-1), .int 0, .int 0, .int 0, .ref k19, .ref k20, .ref k21, .ref k22, .ref k23, .int 0, .ref k25, .ref k26, .ref k27, .int 0, .int 0, .ref k30, .ref k31, .int 0, .ref k33, .int 0, .int 0, .ref k36, .ref k37, .ref k38, .ref k39]), (k0, eI (ty 0) 1875 knF)] := hD
  refine b_if_neT C 16 d_X9_draft_11 (by decide) (by decide) ?_
  refine lv_aload_n hx hb d_X9_draft_16 rfl (lv_at hl 0 rfl) ?_
  have ct_5 : Cut [(k21, eI (ty 0) 1000 (fun _ => 0)), (h0, eO 9 [.ref k0, .ref k1, .ref k2, .ref k3, .int 0, .ref k5, .int 0, .int 0, .int 0, .int 0, .int 0, .int 0, .int 0, .int 0, .int 0, .int (-1), .int 0, .int 0, .int 0, .ref k19, .ref k20, .ref k21, .ref k22, .ref k23, .int 0, .ref k25, .ref k26, .ref k27, .int 0, .int 0, .ref k30, .ref k31, .int 0, .ref k33, .int 0, .int 0, .ref k36, .ref k37, .ref k38, .ref k39]), (k0, eI (ty 0) 1875 knF)] [(h0, eO 9 [.ref k0, .ref k1, .ref k2, .ref k3, .int 0, .ref k5, .int 0, .int 0, .int 0, .int 0, .int 0, .int 0, .int 0, .int 0, .int 0, .int (-1), .int 0, .int 0, .int 0, .ref k19, .ref k20, .ref k21, .ref k22, .ref k23, .int 0, .ref k25, .ref k26, .ref k27, .int 0, .int 0, .ref k30, .ref k31, .int 0, .ref k33, .int 0, .int 0, .ref k36, .ref k37, .ref k38, .ref k39]), (k0, eI (ty 0) 1875 knF)] [(k21, eI (ty 0) 1000 (fun _ => 0))] [1, 2] [0] := ⟨rfl, rfl, rfl, rfl, by decide⟩
  refine cont_V C hP hD hS ct_5 (run_V (As := []) (rest := []) C hP hD hS ct_5 (c_mkeeps l D ty h0 k0 k1 k2 k3 k5 k19 k20 k21 k22 k23 k25 k26 k27 k30 k31 k33 k36 k37 k38 k39 (.int 0) (.int 0) (.int 0) (.int 0) (.int 0) (.int 0) (.int 0) (.int 0) (.int 0) (.int 0) (.int (-1)) (.int 0) (.int 0) (.int 0) (.int 0) (.int 0) (.int 0) (.int 0) (.int 0) (.int 0) knF 0 0 KF_0 rfl (by omega) rfl) kV_PinchedBillModel_329 1 rfl rfl rfl rfl hl.1 rfl (nle rfl) d_X9_draft_17 ⟨by decide, by decide, by decide, by decide⟩) (fun w_10 H locs hw_8 hP hD hS => ?_)
  obtain ⟨kf9_6, d9_7, hkf9_11, hk59_12, hd9_13, hk69_14, rfl⟩ := hw_8
  have hP : va_P D vwCl [(k21, eI (ty 0) 1000 (fun _ => 0)), (h0, eO 9 [.ref k0, .ref k1, .ref k2, .ref k3, .int 0, .ref k5, .int 0, .int 0, .int 0, .int 0, .int 0, .int 0, .int 0, .int 0, .int 0, .int (-1), .int 0, .int 0, .int 0, .ref k19, .ref k20, .ref k21, .ref k22, .ref k23, .int 0, .ref k25, .ref k26, .ref k27, .int 0, .int 0, .ref k30, .ref k31, .int 0, .ref k33, .int 0, .int 0, .ref k36, .ref k37, .ref k38, .ref k39]), (k0, eI (ty 0) 1875 kf9_6)] H := hP
  have hD : va_D A [(k21, eI (ty 0) 1000 (fun _ => 0)), (h0, eO 9 [.ref k0, .ref k1, .ref k2, .ref k3, .int 0, .ref k5, .int 0, .int 0, .int 0, .int 0, .int 0, .int 0, .int 0, .int 0, .int 0, .int (-1), .int 0, .int 0, .int 0, .ref k19, .ref k20, .ref k21, .ref k22, .ref k23, .int 0, .ref k25, .ref k26, .ref k27, .int 0, .int 0, .ref k30, .ref k31, .int 0, .ref k33, .int 0, .int 0, .ref k36, .ref k37, .ref k38, .ref k39]), (k0, eI (ty 0) 1875 kf9_6)] := hD
  refine lv_aload_n hx hb d_X9_draft_20 rfl (lv_at hl 0 rfl) ?_
  refine r_get (v := .ref k0) C hP 1 rfl rfl lay_X9 0 (by decide) k_1545 rfl d_X9_draft_21 ?_
  refine lv_bipush (v := 6) hx hb d_X9_draft_24 (by decide) ?_
  refine r_iald (v := 0) C hP 2 rfl 6 rfl (by decide) (by decide) hk69_14 d_X9_draft_26 ?_
  refine lv_istore_n (lv' := [(2, .int 0), (0, .ref h0), (1, .int (nI (100 * jb)))]) hx hb d_X9_draft_27 rfl hl (by decide) rfl (fun ls hl => ?_)
  refine lv_aload_n hx hb d_X9_draft_28 rfl (lv_at hl 1 rfl) ?_
  refine lv_iload_n hx hb d_X9_draft_29 rfl (lv_at hl 2 rfl) ?_
  have ct_15 : Cut [(k21, eI (ty 0) 1000 (fun _ => 0)), (h0, eO 9 [.ref k0, .ref k1, .ref k2, .ref k3, .int 0, .ref k5, .int 0, .int 0, .int 0, .int 0, .int 0, .int 0, .int 0, .int 0, .int 0, .int (-1), .int 0, .int 0, .int 0, .ref k19, .ref k20, .ref k21, .ref k22, .ref k23, .int 0, .ref k25, .ref k26, .ref k27, .int 0, .int 0, .ref k30, .ref k31, .int 0, .ref k33, .int 0, .int 0, .ref k36, .ref k37, .ref k38, .ref k39]), (k0, eI (ty 0) 1875 kf9_6)] [(h0, eO 9 [.ref k0, .ref k1, .ref k2, .ref k3, .int 0, .ref k5, .int 0, .int 0, .int 0, .int 0, .int 0, .int 0, .int 0, .int 0, .int 0, .int (-1), .int 0, .int 0, .int 0, .ref k19, .ref k20, .ref k21, .ref k22, .ref k23, .int 0, .ref k25, .ref k26, .ref k27, .int 0, .int 0, .ref k30, .ref k31, .int 0, .ref k33, .int 0, .int 0, .ref k36, .ref k37, .ref k38, .ref k39]), (k0, eI (ty 0) 1875 kf9_6)] [(k21, eI (ty 0) 1000 (fun _ => 0))] [1, 2] [0] := ⟨rfl, rfl, rfl, rfl, by decide⟩
  refine cont_V C hP hD hS ct_15 (run_V (As := [.int (nI (100 * jb))]) (rest := []) C hP hD hS ct_15 (c_mdft l D ty h0 k0 k1 k2 k3 k5 k19 k20 k21 k22 k23 k25 k26 k27 k30 k31 k33 k36 k37 k38 k39 (.int 0) (.int 0) (.int 0) (.int 0) (.int 0) (.int 0) (.int 0) (.int 0) (.int 0) (.int 0) (.int (-1)) (.int 0) (.int 0) (.int 0) (.int 0) (.int 0) (.int 0) (.int 0) (.int 0) (.int 0) kf9_6 d9_7 (100 * jb) hkf9_11 hk59_12) kV_PinchedBillModel_336 1 rfl rfl rfl rfl hl.1 rfl (nle rfl) d_X9_draft_30 ⟨by decide, by decide, by decide, by decide⟩) (fun w_19 H locs hw_17 hP hD hS => ?_)
  obtain ⟨kf9_16, hkf9_20, hk59_21, hk69_22, rfl⟩ := hw_17
  have hP : va_P D vwCl [(k21, eI (ty 0) 1000 (fun _ => 0)), (h0, eO 9 [.ref k0, .ref k1, .ref k2, .ref k3, .int 0, .ref k5, .int 0, .int 0, .int 0, .int 0, .int 0, .int 0, .int 0, .int 0, .int 0, .int (-1), .int 0, .int 0, .int 0, .ref k19, .ref k20, .ref k21, .ref k22, .ref k23, .int 0, .ref k25, .ref k26, .ref k27, .int 0, .int 0, .ref k30, .ref k31, .int 0, .ref k33, .int 0, .int 0, .ref k36, .ref k37, .ref k38, .ref k39]), (k0, eI (ty 0) 1875 kf9_16)] H := hP
  have hD : va_D A [(k21, eI (ty 0) 1000 (fun _ => 0)), (h0, eO 9 [.ref k0, .ref k1, .ref k2, .ref k3, .int 0, .ref k5, .int 0, .int 0, .int 0, .int 0, .int 0, .int 0, .int 0, .int 0, .int 0, .int (-1), .int 0, .int 0, .int 0, .ref k19, .ref k20, .ref k21, .ref k22, .ref k23, .int 0, .ref k25, .ref k26, .ref k27, .int 0, .int 0, .ref k30, .ref k31, .int 0, .ref k33, .int 0, .int 0, .ref k36, .ref k37, .ref k38, .ref k39]), (k0, eI (ty 0) 1875 kf9_16)] := hD
  refine lv_iload_n hx hb d_X9_draft_33 rfl (lv_at hl 0 rfl) ?_
  exact ret_I (w := []) C hP hD hS [] rfl rfl ⟨rfl, rfl⟩ (by decide) (by decide) d_X9_draft_34
set_option maxHeartbeats 4000000 in
set_option maxRecDepth 100000 in
theorem m_draftF (l : Launch) (D : va_G) (ty : Nat → ClassId) (h0 : Nat) (k0 : Nat) (k1 : Nat) (k2 : Nat) (k3 : Nat) (k5 : Nat) (k19 : Nat) (k20 : Nat) (k21 : Nat) (k22 : Nat) (k23 : Nat) (k25 : Nat) (k26 : Nat) (k27 : Nat) (k30 : Nat) (k31 : Nat) (k33 : Nat) (k36 : Nat) (k37 : Nat) (k38 : Nat) (k39 : Nat) (b : Int32) (hnb : ¬ bB b = 1) : CC l D ty ⟨"PinchedBillModel", "draft", "(I)I"⟩ prog_11_method_67_code 3 (some .int) 3 62 0 0 [.ref h0, .int b] [(h0, eO 9 [.ref k0, .ref k1, .ref k2, .ref k3, .int 0, .ref k5, .int 0, .int 0, .int 0, .int 0, .int 0, .int 0, .int 0, .int 0, .int 0, .int (-1), .int 0, .int 0, .int 0, .ref k19, .ref k20, .ref k21, .ref k22, .ref k23, .int 0, .ref k25, .ref k26, .ref k27, .int 0, .int 0, .ref k30, .ref k31, .int 0, .ref k33, .int 0, .int 0, .ref k36, .ref k37, .ref k38, .ref k39]), (k0, eI (ty 0) 1875 knF), (k21, eI (ty 0) 1000 (fun _ => 0))] (QI D ty (fun (r : Int32) (w : va_W) => (-1) = r ∧ w = [])) := by
  refine CC_of (by decide) ?_
  intro p e s m below meth c A C hP hD hS
  obtain ⟨⟨hx, hb, hml, hown, hts⟩, hr, hlocks, hnm, hK, hE, hA, hZ⟩ := id C
  refine startW [.ref h0, .int b] 3 (nle rfl) (lv := [(0, .ref h0), (1, .int b)]) rfl (fun ls hl => ?_)
  refine lv_aload_n hx hb d_X9_draft_0 rfl (lv_at hl 0 rfl) ?_
  refine lv_iconst (v := 0) hx hb d_X9_draft_1 (by decide) ?_
  refine r_put (w := [(h0, eO 9 [.ref k0, .ref k1, .ref k2, .ref k3, .int 0, .ref k5, .int 0, .int 0, .int 0, .int 0, .int 0, .int 0, .int 0, .int 0, .int 0, .int (-1), .int 0, .int 0, .int 0, .ref k19, .ref k20, .ref k21, .ref k22, .ref k23, .int 0, .ref k25, .ref k26, .ref k27, .int 0, .int 0, .ref k30, .ref k31, .int 0, .ref k33, .int 0, .int 0, .ref k36, .ref k37, .ref k38, .ref k39]), (k0, eI (ty 0) 1875 knF), (k21, eI (ty 0) 1000 (fun _ => 0))]) C hP hD hS 0 rfl rfl lay_X9 tok_X9 nmo_X9 4 (by decide) k_1549 rfl rfl rfl (nle rfl) rfl d_X9_draft_2 (fun H locs hP hD hS => ?_)
  refine lv_aload_n hx hb d_X9_draft_5 rfl (lv_at hl 0 rfl) ?_
  refine lv_iload_n hx hb d_X9_draft_6 rfl (lv_at hl 1 rfl) ?_
  refine lv_i2l (v := (b).toInt64) hx hb d_X9_draft_7 rfl ?_
  have ct_1 : Cut [(h0, eO 9 [.ref k0, .ref k1, .ref k2, .ref k3, .int 0, .ref k5, .int 0, .int 0, .int 0, .int 0, .int 0, .int 0, .int 0, .int 0, .int 0, .int (-1), .int 0, .int 0, .int 0, .ref k19, .ref k20, .ref k21, .ref k22, .ref k23, .int 0, .ref k25, .ref k26, .ref k27, .int 0, .int 0, .ref k30, .ref k31, .int 0, .ref k33, .int 0, .int 0, .ref k36, .ref k37, .ref k38, .ref k39]), (k0, eI (ty 0) 1875 knF), (k21, eI (ty 0) 1000 (fun _ => 0))] [(h0, eO 9 [.ref k0, .ref k1, .ref k2, .ref k3, .int 0, .ref k5, .int 0, .int 0, .int 0, .int 0, .int 0, .int 0, .int 0, .int 0, .int 0, .int (-1), .int 0, .int 0, .int 0, .ref k19, .ref k20, .ref k21, .ref k22, .ref k23, .int 0, .ref k25, .ref k26, .ref k27, .int 0, .int 0, .ref k30, .ref k31, .int 0, .ref k33, .int 0, .int 0, .ref k36, .ref k37, .ref k38, .ref k39]), (k0, eI (ty 0) 1875 knF)] [(k21, eI (ty 0) 1000 (fun _ => 0))] [0, 1] [2] := ⟨rfl, rfl, rfl, rfl, by decide⟩
  refine cont_I C hP hD hS ct_1 (run_V (As := [.long (b).toInt64]) (rest := []) C hP hD hS ct_1 (c_mbillF l D ty h0 k0 k1 k2 k3 k5 k19 k20 k21 k22 k23 k25 k26 k27 k30 k31 k33 k36 k37 k38 k39 (.int 0) (.int 0) (.int 0) (.int 0) (.int 0) (.int 0) (.int 0) (.int 0) (.int 0) (.int 0) (.int (-1)) (.int 0) (.int 0) (.int 0) (.int 0) (.int 0) (.int 0) (.int 0) (.int 0) (.int 0) knF b KF_0 hnb) kV_PinchedBillModel_326 0 rfl rfl rfl rfl hl.1 rfl (nle rfl) d_X9_draft_8 ⟨by decide, by decide, by decide, by decide⟩) (fun r_3 w_4 H locs hw_2 hP hD hS => ?_)
  obtain ⟨rfl, rfl⟩ := hw_2
  have hP : va_P D vwCl [(k21, eI (ty 0) 1000 (fun _ => 0)), (h0, eO 9 [.ref k0, .ref k1, .ref k2, .ref k3, .int 0, .ref k5, .int 0, .int 0, .int 0, .int 0, .int 0, .int 0, .int 0, .int 0, .int 0, .int (-1), .int 0, .int 0, .int 0, .ref k19, .ref k20, .ref k21, .ref k22, .ref k23, .int 0, .ref k25, .ref k26, .ref k27, .int 0, .int 0, .ref k30, .ref k31, .int 0, .ref k33, .int 0, .int 0, .ref k36, .ref k37, .ref k38, .ref k39]), (k0, eI (ty 0) 1875 knF)] H := hP
  have hD : va_D A [(k21, eI (ty 0) 1000 (fun _ => 0)), (h0, eO 9 [.ref k0, .ref k1, .ref k2, .ref k3, .int 0, .ref k5, .int 0, .int 0, .int 0, .int 0, .int 0, .int 0, .int 0, .int 0, .int 0, .int (-1), .int 0, .int 0, .int 0, .ref k19, .ref k20, .ref k21, .ref k22, .ref k23, .int 0, .ref k25, .ref k26, .ref k27, .int 0, .int 0, .ref k30, .ref k31, .int 0, .ref k33, .int 0, .int 0, .ref k36, .ref k37, .ref k38, .ref k39]), (k0, eI (ty 0) 1875 knF)] := hD
  refine b_if_neF C 16 d_X9_draft_11 (by decide) (by decide) ?_
  refine lv_iconst (v := (-1)) hx hb d_X9_draft_14 (by decide) ?_
  exact ret_I (w := []) C hP hD hS [] rfl rfl ⟨rfl, rfl⟩ (by decide) (by decide) d_X9_draft_15
set_option maxHeartbeats 4000000 in
set_option maxRecDepth 100000 in
theorem m_undo (l : Launch) (D : va_G) (ty : Nat → ClassId) (h0 : Nat) (k0 : Nat) (k1 : Nat) (k2 : Nat) (k3 : Nat) (k5 : Nat) (k19 : Nat) (k20 : Nat) (k21 : Nat) (k22 : Nat) (k23 : Nat) (k25 : Nat) (k26 : Nat) (k27 : Nat) (k30 : Nat) (k31 : Nat) (k33 : Nat) (k36 : Nat) (k37 : Nat) (k38 : Nat) (k39 : Nat) (n : Int32) : CC l D ty ⟨"PinchedBillModel", "undo", "(I)I"⟩ prog_11_method_71_code 3 (some .int) 1 25 0 0 [.ref h0, .int n] [(h0, eO 9 [.ref k0, .ref k1, .ref k2, .ref k3, .int 0, .ref k5, .int 0, .int 0, .int 0, .int 0, .int 0, .int 0, .int 0, .int 0, .int 0, .int (-1), .int 0, .int 0, .int 0, .ref k19, .ref k20, .ref k21, .ref k22, .ref k23, .int 0, .ref k25, .ref k26, .ref k27, .int 0, .int 0, .ref k30, .ref k31, .int 0, .ref k33, .int 0, .int 0, .ref k36, .ref k37, .ref k38, .ref k39]), (k0, eI (ty 0) 1875 knF)] (QI D ty (fun (r : Int32) (w : va_W) => ∃ (w6 : Value) (w7 : Value) (w8 : Value) (w9 : Value) (w10 : Value) (w11 : Value) (w12 : Value) (w13 : Value) (w14 : Value) (w15 : Value) (w16 : Value) (w17 : Value) (w18 : Value) (w24 : Value) (w28 : Value) (w29 : Value) (w32 : Value) (w34 : Value) (w35 : Value), 0 = r ∧ w = [(h0, eO 9 [.ref k0, .ref k1, .ref k2, .ref k3, .int 1, .ref k5, w6, w7, w8, w9, w10, w11, w12, w13, w14, w15, w16, w17, w18, .ref k19, .ref k20, .ref k21, .ref k22, .ref k23, w24, .ref k25, .ref k26, .ref k27, w28, w29, .ref k30, .ref k31, w32, .ref k33, w34, w35, .ref k36, .ref k37, .ref k38, .ref k39])])) := by
  refine CC_of (by decide) ?_
  intro p e s m below meth c A C hP hD hS
  obtain ⟨⟨hx, hb, hml, hown, hts⟩, hr, hlocks, hnm, hK, hE, hA, hZ⟩ := id C
  refine startW [.ref h0, .int n] 3 (nle rfl) (lv := [(0, .ref h0), (1, .int n)]) rfl (fun ls hl => ?_)
  by_cases hq_1 : ¬ n < 1 ∧ ¬ 10 < n
  · have hgo9 := trivial
    refine lv_aload_n hx hb d_X9_undo_0 rfl (lv_at hl 0 rfl) ?_
    refine lv_iconst (v := 0) hx hb d_X9_undo_1 (by decide) ?_
    refine r_put (w := [(h0, eO 9 [.ref k0, .ref k1, .ref k2, .ref k3, .int 0, .ref k5, .int 0, .int 0, .int 0, .int 0, .int 0, .int 0, .int 0, .int 0, .int 0, .int (-1), .int 0, .int 0, .int 0, .ref k19, .ref k20, .ref k21, .ref k22, .ref k23, .int 0, .ref k25, .ref k26, .ref k27, .int 0, .int 0, .ref k30, .ref k31, .int 0, .ref k33, .int 0, .int 0, .ref k36, .ref k37, .ref k38, .ref k39]), (k0, eI (ty 0) 1875 knF)]) C hP hD hS 0 rfl rfl lay_X9 tok_X9 nmo_X9 4 (by decide) k_1549 rfl rfl rfl (nle rfl) rfl d_X9_undo_2 (fun H locs hP hD hS => ?_)
    refine lv_iload_n hx hb d_X9_undo_5 rfl (lv_at hl 1 rfl) ?_
    refine lv_i2l (v := (n).toInt64) hx hb d_X9_undo_6 rfl ?_
    refine lv_lconst (v := 1) hx hb d_X9_undo_7 (by decide) ?_
    refine lv_ldc2 hx hb hown (hts _ k_1900) d_X9_undo_8 ?_
    have ct_2 : Cut [(h0, eO 9 [.ref k0, .ref k1, .ref k2, .ref k3, .int 0, .ref k5, .int 0, .int 0, .int 0, .int 0, .int 0, .int 0, .int 0, .int 0, .int 0, .int (-1), .int 0, .int 0, .int 0, .ref k19, .ref k20, .ref k21, .ref k22, .ref k23, .int 0, .ref k25, .ref k26, .ref k27, .int 0, .int 0, .ref k30, .ref k31, .int 0, .ref k33, .int 0, .int 0, .ref k36, .ref k37, .ref k38, .ref k39]), (k0, eI (ty 0) 1875 knF)] [] [(h0, eO 9 [.ref k0, .ref k1, .ref k2, .ref k3, .int 0, .ref k5, .int 0, .int 0, .int 0, .int 0, .int 0, .int 0, .int 0, .int 0, .int 0, .int (-1), .int 0, .int 0, .int 0, .ref k19, .ref k20, .ref k21, .ref k22, .ref k23, .int 0, .ref k25, .ref k26, .ref k27, .int 0, .int 0, .ref k30, .ref k31, .int 0, .ref k33, .int 0, .int 0, .ref k36, .ref k37, .ref k38, .ref k39]), (k0, eI (ty 0) 1875 knF)] [] [0, 1] := ⟨rfl, rfl, rfl, rfl, by decide⟩
    refine cont_I C hP hD hS ct_2 (run_S (As := [.long (n).toInt64, .long 1, .long 10]) (rest := []) C hP hD hS ct_2 (c_mwi l D ty ((n).toInt64) 1 10) kS_PinchedBillModel_140 rfl hl.1 rfl (nle rfl) d_X9_undo_11 ⟨by decide, by decide, by decide, by decide⟩) (fun r_4 w_5 H locs hw_3 hP hD hS => ?_)
    obtain ⟨rfl, rfl⟩ := hw_3
    have hP : va_P D vwCl [(h0, eO 9 [.ref k0, .ref k1, .ref k2, .ref k3, .int 0, .ref k5, .int 0, .int 0, .int 0, .int 0, .int 0, .int 0, .int 0, .int 0, .int 0, .int (-1), .int 0, .int 0, .int 0, .ref k19, .ref k20, .ref k21, .ref k22, .ref k23, .int 0, .ref k25, .ref k26, .ref k27, .int 0, .int 0, .ref k30, .ref k31, .int 0, .ref k33, .int 0, .int 0, .ref k36, .ref k37, .ref k38, .ref k39]), (k0, eI (ty 0) 1875 knF)] H := hP
    have hD : va_D A [(h0, eO 9 [.ref k0, .ref k1, .ref k2, .ref k3, .int 0, .ref k5, .int 0, .int 0, .int 0, .int 0, .int 0, .int 0, .int 0, .int 0, .int 0, .int (-1), .int 0, .int 0, .int 0, .ref k19, .ref k20, .ref k21, .ref k22, .ref k23, .int 0, .ref k25, .ref k26, .ref k27, .int 0, .int 0, .ref k30, .ref k31, .int 0, .ref k33, .int 0, .int 0, .ref k36, .ref k37, .ref k38, .ref k39]), (k0, eI (ty 0) 1875 knF)] := hD
    refine topeq (z := 1) (wiP (n := n) (lo := 1) (hi := 10) rfl rfl rfl hq_1) ?_
    refine b_if_eqF C 27 d_X9_undo_14 (by decide) (by decide) ?_
    refine lv_iload_n hx hb d_X9_undo_17 rfl (lv_at hl 1 rfl) ?_
    refine lv_aload_n hx hb d_X9_undo_18 rfl (lv_at hl 0 rfl) ?_
    refine r_get (v := .ref k0) C hP 0 rfl rfl lay_X9 0 (by decide) k_1545 rfl d_X9_undo_19 ?_
    refine lv_iconst (v := 5) hx hb d_X9_undo_22 (by decide) ?_
    refine r_iald (v := 0) C hP 1 rfl 5 rfl (by decide) (by decide) rfl d_X9_undo_23 ?_
    refine b_icmp_leF C 33 d_X9_undo_24 (by decide) (n_pos hq_1) ?_
    refine lv_aload_n hx hb d_X9_undo_27 rfl (lv_at hl 0 rfl) ?_
    refine lv_iconst (v := 1) hx hb d_X9_undo_28 (by decide) ?_
    have ct_6 : Cut [(h0, eO 9 [.ref k0, .ref k1, .ref k2, .ref k3, .int 0, .ref k5, .int 0, .int 0, .int 0, .int 0, .int 0, .int 0, .int 0, .int 0, .int 0, .int (-1), .int 0, .int 0, .int 0, .ref k19, .ref k20, .ref k21, .ref k22, .ref k23, .int 0, .ref k25, .ref k26, .ref k27, .int 0, .int 0, .ref k30, .ref k31, .int 0, .ref k33, .int 0, .int 0, .ref k36, .ref k37, .ref k38, .ref k39]), (k0, eI (ty 0) 1875 knF)] [(h0, eO 9 [.ref k0, .ref k1, .ref k2, .ref k3, .int 0, .ref k5, .int 0, .int 0, .int 0, .int 0, .int 0, .int 0, .int 0, .int 0, .int 0, .int (-1), .int 0, .int 0, .int 0, .ref k19, .ref k20, .ref k21, .ref k22, .ref k23, .int 0, .ref k25, .ref k26, .ref k27, .int 0, .int 0, .ref k30, .ref k31, .int 0, .ref k33, .int 0, .int 0, .ref k36, .ref k37, .ref k38, .ref k39])] [(k0, eI (ty 0) 1875 knF)] [0] [1] := ⟨rfl, rfl, rfl, rfl, by decide⟩
    refine cont_I C hP hD hS ct_6 (run_V (As := [.int 1]) (rest := []) C hP hD hS ct_6 (c_fails l D ty h0 k0 k1 k2 k3 k5 k19 k20 k21 k22 k23 k25 k26 k27 k30 k31 k33 k36 k37 k38 k39 (.int 0) (.int 0) (.int 0) (.int 0) (.int 0) (.int 0) (.int 0) (.int 0) (.int 0) (.int 0) (.int (-1)) (.int 0) (.int 0) (.int 0) (.int 0) (.int 0) (.int 0) (.int 0) (.int 0) (.int 0) 1) kV_PinchedBillModel_242 0 rfl rfl rfl rfl hl.1 rfl (nle rfl) d_X9_undo_29 ⟨by decide, by decide, by decide, by decide⟩) (fun r_8 w_9 H locs hw_7 hP hD hS => ?_)
    obtain ⟨rfl, rfl⟩ := hw_7
    have hP : va_P D vwCl [(k0, eI (ty 0) 1875 knF), (h0, eO 9 [.ref k0, .ref k1, .ref k2, .ref k3, .int 1, .ref k5, .int 0, .int 0, .int 0, .int 0, .int 0, .int 0, .int 0, .int 0, .int 0, .int (-1), .int 0, .int 0, .int 0, .ref k19, .ref k20, .ref k21, .ref k22, .ref k23, .int 0, .ref k25, .ref k26, .ref k27, .int 0, .int 0, .ref k30, .ref k31, .int 0, .ref k33, .int 0, .int 0, .ref k36, .ref k37, .ref k38, .ref k39])] H := hP
    have hD : va_D A [(k0, eI (ty 0) 1875 knF), (h0, eO 9 [.ref k0, .ref k1, .ref k2, .ref k3, .int 1, .ref k5, .int 0, .int 0, .int 0, .int 0, .int 0, .int 0, .int 0, .int 0, .int 0, .int (-1), .int 0, .int 0, .int 0, .ref k19, .ref k20, .ref k21, .ref k22, .ref k23, .int 0, .ref k25, .ref k26, .ref k27, .int 0, .int 0, .ref k30, .ref k31, .int 0, .ref k33, .int 0, .int 0, .ref k36, .ref k37, .ref k38, .ref k39])] := hD
    exact ret_I (w := [(h0, eO 9 [.ref k0, .ref k1, .ref k2, .ref k3, .int 1, .ref k5, .int 0, .int 0, .int 0, .int 0, .int 0, .int 0, .int 0, .int 0, .int 0, .int (-1), .int 0, .int 0, .int 0, .ref k19, .ref k20, .ref k21, .ref k22, .ref k23, .int 0, .ref k25, .ref k26, .ref k27, .int 0, .int 0, .ref k30, .ref k31, .int 0, .ref k33, .int 0, .int 0, .ref k36, .ref k37, .ref k38, .ref k39])]) C hP hD hS [1] rfl rfl ⟨(.int 0), (.int 0), (.int 0), (.int 0), (.int 0), (.int 0), (.int 0), (.int 0), (.int 0), (.int (-1)), (.int 0), (.int 0), (.int 0), (.int 0), (.int 0), (.int 0), (.int 0), (.int 0), (.int 0), rfl, rfl⟩ (by decide) (by decide) d_X9_undo_32
  · have hgo9 := trivial
    refine lv_aload_n hx hb d_X9_undo_0 rfl (lv_at hl 0 rfl) ?_
    refine lv_iconst (v := 0) hx hb d_X9_undo_1 (by decide) ?_
    refine r_put (w := [(h0, eO 9 [.ref k0, .ref k1, .ref k2, .ref k3, .int 0, .ref k5, .int 0, .int 0, .int 0, .int 0, .int 0, .int 0, .int 0, .int 0, .int 0, .int (-1), .int 0, .int 0, .int 0, .ref k19, .ref k20, .ref k21, .ref k22, .ref k23, .int 0, .ref k25, .ref k26, .ref k27, .int 0, .int 0, .ref k30, .ref k31, .int 0, .ref k33, .int 0, .int 0, .ref k36, .ref k37, .ref k38, .ref k39]), (k0, eI (ty 0) 1875 knF)]) C hP hD hS 0 rfl rfl lay_X9 tok_X9 nmo_X9 4 (by decide) k_1549 rfl rfl rfl (nle rfl) rfl d_X9_undo_2 (fun H locs hP hD hS => ?_)
    refine lv_iload_n hx hb d_X9_undo_5 rfl (lv_at hl 1 rfl) ?_
    refine lv_i2l (v := (n).toInt64) hx hb d_X9_undo_6 rfl ?_
    refine lv_lconst (v := 1) hx hb d_X9_undo_7 (by decide) ?_
    refine lv_ldc2 hx hb hown (hts _ k_1900) d_X9_undo_8 ?_
    have ct_10 : Cut [(h0, eO 9 [.ref k0, .ref k1, .ref k2, .ref k3, .int 0, .ref k5, .int 0, .int 0, .int 0, .int 0, .int 0, .int 0, .int 0, .int 0, .int 0, .int (-1), .int 0, .int 0, .int 0, .ref k19, .ref k20, .ref k21, .ref k22, .ref k23, .int 0, .ref k25, .ref k26, .ref k27, .int 0, .int 0, .ref k30, .ref k31, .int 0, .ref k33, .int 0, .int 0, .ref k36, .ref k37, .ref k38, .ref k39]), (k0, eI (ty 0) 1875 knF)] [] [(h0, eO 9 [.ref k0, .ref k1, .ref k2, .ref k3, .int 0, .ref k5, .int 0, .int 0, .int 0, .int 0, .int 0, .int 0, .int 0, .int 0, .int 0, .int (-1), .int 0, .int 0, .int 0, .ref k19, .ref k20, .ref k21, .ref k22, .ref k23, .int 0, .ref k25, .ref k26, .ref k27, .int 0, .int 0, .ref k30, .ref k31, .int 0, .ref k33, .int 0, .int 0, .ref k36, .ref k37, .ref k38, .ref k39]), (k0, eI (ty 0) 1875 knF)] [] [0, 1] := ⟨rfl, rfl, rfl, rfl, by decide⟩
    refine cont_I C hP hD hS ct_10 (run_S (As := [.long (n).toInt64, .long 1, .long 10]) (rest := []) C hP hD hS ct_10 (c_mwi l D ty ((n).toInt64) 1 10) kS_PinchedBillModel_140 rfl hl.1 rfl (nle rfl) d_X9_undo_11 ⟨by decide, by decide, by decide, by decide⟩) (fun r_12 w_13 H locs hw_11 hP hD hS => ?_)
    obtain ⟨rfl, rfl⟩ := hw_11
    have hP : va_P D vwCl [(h0, eO 9 [.ref k0, .ref k1, .ref k2, .ref k3, .int 0, .ref k5, .int 0, .int 0, .int 0, .int 0, .int 0, .int 0, .int 0, .int 0, .int 0, .int (-1), .int 0, .int 0, .int 0, .ref k19, .ref k20, .ref k21, .ref k22, .ref k23, .int 0, .ref k25, .ref k26, .ref k27, .int 0, .int 0, .ref k30, .ref k31, .int 0, .ref k33, .int 0, .int 0, .ref k36, .ref k37, .ref k38, .ref k39]), (k0, eI (ty 0) 1875 knF)] H := hP
    have hD : va_D A [(h0, eO 9 [.ref k0, .ref k1, .ref k2, .ref k3, .int 0, .ref k5, .int 0, .int 0, .int 0, .int 0, .int 0, .int 0, .int 0, .int 0, .int 0, .int (-1), .int 0, .int 0, .int 0, .ref k19, .ref k20, .ref k21, .ref k22, .ref k23, .int 0, .ref k25, .ref k26, .ref k27, .int 0, .int 0, .ref k30, .ref k31, .int 0, .ref k33, .int 0, .int 0, .ref k36, .ref k37, .ref k38, .ref k39]), (k0, eI (ty 0) 1875 knF)] := hD
    refine topeq (z := 0) (wiQ (n := n) (lo := 1) (hi := 10) rfl rfl rfl hq_1) ?_
    refine b_if_eqT C 27 d_X9_undo_14 (by decide) (by decide) ?_
    refine lv_aload_n hx hb d_X9_undo_27 rfl (lv_at hl 0 rfl) ?_
    refine lv_iconst (v := 1) hx hb d_X9_undo_28 (by decide) ?_
    have ct_14 : Cut [(h0, eO 9 [.ref k0, .ref k1, .ref k2, .ref k3, .int 0, .ref k5, .int 0, .int 0, .int 0, .int 0, .int 0, .int 0, .int 0, .int 0, .int 0, .int (-1), .int 0, .int 0, .int 0, .ref k19, .ref k20, .ref k21, .ref k22, .ref k23, .int 0, .ref k25, .ref k26, .ref k27, .int 0, .int 0, .ref k30, .ref k31, .int 0, .ref k33, .int 0, .int 0, .ref k36, .ref k37, .ref k38, .ref k39]), (k0, eI (ty 0) 1875 knF)] [(h0, eO 9 [.ref k0, .ref k1, .ref k2, .ref k3, .int 0, .ref k5, .int 0, .int 0, .int 0, .int 0, .int 0, .int 0, .int 0, .int 0, .int 0, .int (-1), .int 0, .int 0, .int 0, .ref k19, .ref k20, .ref k21, .ref k22, .ref k23, .int 0, .ref k25, .ref k26, .ref k27, .int 0, .int 0, .ref k30, .ref k31, .int 0, .ref k33, .int 0, .int 0, .ref k36, .ref k37, .ref k38, .ref k39])] [(k0, eI (ty 0) 1875 knF)] [0] [1] := ⟨rfl, rfl, rfl, rfl, by decide⟩
    refine cont_I C hP hD hS ct_14 (run_V (As := [.int 1]) (rest := []) C hP hD hS ct_14 (c_fails l D ty h0 k0 k1 k2 k3 k5 k19 k20 k21 k22 k23 k25 k26 k27 k30 k31 k33 k36 k37 k38 k39 (.int 0) (.int 0) (.int 0) (.int 0) (.int 0) (.int 0) (.int 0) (.int 0) (.int 0) (.int 0) (.int (-1)) (.int 0) (.int 0) (.int 0) (.int 0) (.int 0) (.int 0) (.int 0) (.int 0) (.int 0) 1) kV_PinchedBillModel_242 0 rfl rfl rfl rfl hl.1 rfl (nle rfl) d_X9_undo_29 ⟨by decide, by decide, by decide, by decide⟩) (fun r_16 w_17 H locs hw_15 hP hD hS => ?_)
    obtain ⟨rfl, rfl⟩ := hw_15
    have hP : va_P D vwCl [(k0, eI (ty 0) 1875 knF), (h0, eO 9 [.ref k0, .ref k1, .ref k2, .ref k3, .int 1, .ref k5, .int 0, .int 0, .int 0, .int 0, .int 0, .int 0, .int 0, .int 0, .int 0, .int (-1), .int 0, .int 0, .int 0, .ref k19, .ref k20, .ref k21, .ref k22, .ref k23, .int 0, .ref k25, .ref k26, .ref k27, .int 0, .int 0, .ref k30, .ref k31, .int 0, .ref k33, .int 0, .int 0, .ref k36, .ref k37, .ref k38, .ref k39])] H := hP
    have hD : va_D A [(k0, eI (ty 0) 1875 knF), (h0, eO 9 [.ref k0, .ref k1, .ref k2, .ref k3, .int 1, .ref k5, .int 0, .int 0, .int 0, .int 0, .int 0, .int 0, .int 0, .int 0, .int 0, .int (-1), .int 0, .int 0, .int 0, .ref k19, .ref k20, .ref k21, .ref k22, .ref k23, .int 0, .ref k25, .ref k26, .ref k27, .int 0, .int 0, .ref k30, .ref k31, .int 0, .ref k33, .int 0, .int 0, .ref k36, .ref k37, .ref k38, .ref k39])] := hD
    exact ret_I (w := [(h0, eO 9 [.ref k0, .ref k1, .ref k2, .ref k3, .int 1, .ref k5, .int 0, .int 0, .int 0, .int 0, .int 0, .int 0, .int 0, .int 0, .int 0, .int (-1), .int 0, .int 0, .int 0, .ref k19, .ref k20, .ref k21, .ref k22, .ref k23, .int 0, .ref k25, .ref k26, .ref k27, .int 0, .int 0, .ref k30, .ref k31, .int 0, .ref k33, .int 0, .int 0, .ref k36, .ref k37, .ref k38, .ref k39])]) C hP hD hS [1] rfl rfl ⟨(.int 0), (.int 0), (.int 0), (.int 0), (.int 0), (.int 0), (.int 0), (.int 0), (.int 0), (.int (-1)), (.int 0), (.int 0), (.int 0), (.int 0), (.int 0), (.int 0), (.int 0), (.int 0), (.int 0), rfl, rfl⟩ (by decide) (by decide) d_X9_undo_32
set_option maxHeartbeats 4000000 in
set_option maxRecDepth 100000 in
theorem c_misTT (l : Launch) (D : va_G) (ty : Nat → ClassId) (ta : Nat) (hta : ta < 4) : CC l D ty ⟨"PinchedBillModel", "isTray", "(I)Z"⟩ prog_11_method_131_code 1 (some .boolean) 1 25 0 0 [.int (nI ta)] [] (QI D ty (fun (r : Int32) (w : va_W) => 1 = r ∧ w = [])) := by
  refine CC_of (by decide) ?_
  intro p e s m below meth c A C hP hD hS
  obtain ⟨⟨hx, hb, hml, hown, hts⟩, hr, hlocks, hnm, hK, hE, hA, hZ⟩ := id C
  refine startW [.int (nI ta)] 1 (nle rfl) (lv := [(0, .int (nI ta))]) rfl (fun ls hl => ?_)
  refine lv_iload_n hx hb d_X9_isTray_0 rfl (lv_at hl 0 rfl) ?_
  refine lv_i2l (v := (lN ta)) hx hb d_X9_isTray_1 (nI_l (by omega)) ?_
  refine lv_lconst (v := 0) hx hb d_X9_isTray_2 (by decide) ?_
  refine lv_ldc2 hx hb hown (hts _ k_1912) d_X9_isTray_3 ?_
  have ct_1 : Cut [] [] [] [] [] := ⟨rfl, rfl, rfl, rfl, by decide⟩
  refine cont_I C hP hD hS ct_1 (run_S (As := [.long (lN ta), .long 0, .long 3]) (rest := []) C hP hD hS ct_1 (c_mwi l D ty (lN ta) 0 3) kS_PinchedBillModel_140 rfl hl.1 rfl (nle rfl) d_X9_isTray_6 ⟨by decide, by decide, by decide, by decide⟩) (fun r_3 w_4 H locs hw_2 hP hD hS => ?_)
  obtain ⟨rfl, rfl⟩ := hw_2
  have hP : va_P D vwCl [] H := hP
  have hD : va_D A [] := hD
  refine topeq (z := 1) (wiN_1 (ta) 0 3 rfl rfl rfl (by omega) (by omega) (by omega)) ?_
  exact ret_Z (w := []) C rfl hP hD hS [] rfl rfl ⟨rfl, rfl⟩ (by decide) (by decide) d_X9_isTray_9
set_option maxHeartbeats 4000000 in
set_option maxRecDepth 100000 in
theorem c_misTF (l : Launch) (D : va_G) (ty : Nat → ClassId) (t : Int32) (hno : ¬ (¬ t < 0 ∧ ¬ 3 < t)) : CC l D ty ⟨"PinchedBillModel", "isTray", "(I)Z"⟩ prog_11_method_131_code 1 (some .boolean) 1 25 0 0 [.int t] [] (QI D ty (fun (r : Int32) (w : va_W) => 0 = r ∧ w = [])) := by
  refine CC_of (by decide) ?_
  intro p e s m below meth c A C hP hD hS
  obtain ⟨⟨hx, hb, hml, hown, hts⟩, hr, hlocks, hnm, hK, hE, hA, hZ⟩ := id C
  refine startW [.int t] 1 (nle rfl) (lv := [(0, .int t)]) rfl (fun ls hl => ?_)
  refine lv_iload_n hx hb d_X9_isTray_0 rfl (lv_at hl 0 rfl) ?_
  refine lv_i2l (v := (t).toInt64) hx hb d_X9_isTray_1 rfl ?_
  refine lv_lconst (v := 0) hx hb d_X9_isTray_2 (by decide) ?_
  refine lv_ldc2 hx hb hown (hts _ k_1912) d_X9_isTray_3 ?_
  have ct_1 : Cut [] [] [] [] [] := ⟨rfl, rfl, rfl, rfl, by decide⟩
  refine cont_I C hP hD hS ct_1 (run_S (As := [.long (t).toInt64, .long 0, .long 3]) (rest := []) C hP hD hS ct_1 (c_mwi l D ty ((t).toInt64) 0 3) kS_PinchedBillModel_140 rfl hl.1 rfl (nle rfl) d_X9_isTray_6 ⟨by decide, by decide, by decide, by decide⟩) (fun r_3 w_4 H locs hw_2 hP hD hS => ?_)
  obtain ⟨rfl, rfl⟩ := hw_2
  have hP : va_P D vwCl [] H := hP
  have hD : va_D A [] := hD
  refine topeq (z := 0) (wiQ (n := t) (lo := 0) (hi := 3) rfl rfl rfl hno) ?_
  exact ret_Z (w := []) C rfl hP hD hS [] rfl rfl ⟨rfl, rfl⟩ (by decide) (by decide) d_X9_isTray_9
set_option maxHeartbeats 4000000 in
set_option maxRecDepth 100000 in
theorem c_mtfT (l : Launch) (D : va_G) (ty : Nat → ClassId) (h0 : Nat) (k0 : Nat) (k1 : Nat) (k2 : Nat) (k3 : Nat) (k5 : Nat) (k19 : Nat) (k20 : Nat) (k21 : Nat) (k22 : Nat) (k23 : Nat) (k25 : Nat) (k26 : Nat) (k27 : Nat) (k30 : Nat) (k31 : Nat) (k33 : Nat) (k36 : Nat) (k37 : Nat) (k38 : Nat) (k39 : Nat) (u4 : Value) (u6 : Value) (u7 : Value) (u8 : Value) (u9 : Value) (u10 : Value) (u11 : Value) (u12 : Value) (u13 : Value) (u14 : Value) (u15 : Value) (u16 : Value) (u17 : Value) (u18 : Value) (u24 : Value) (u28 : Value) (u29 : Value) (u32 : Value) (u34 : Value) (u35 : Value) (ta : Nat) (hta : ta < 4) : CC l D ty ⟨"PinchedBillModel", "trayFault", "(I)I"⟩ prog_11_method_72_code 2 (some .int) 2 45 0 0 [.ref h0, .int (nI ta)] [(h0, eO 9 [.ref k0, .ref k1, .ref k2, .ref k3, u4, .ref k5, u6, u7, u8, u9, u10, u11, u12, u13, u14, u15, u16, u17, u18, .ref k19, .ref k20, .ref k21, .ref k22, .ref k23, u24, .ref k25, .ref k26, .ref k27, u28, u29, .ref k30, .ref k31, u32, .ref k33, u34, u35, .ref k36, .ref k37, .ref k38, .ref k39]), (k37, eI (ty 0) 4 tsF)] (QI D ty (fun (r : Int32) (w : va_W) => 2 = r ∧ w = [(h0, eO 9 [.ref k0, .ref k1, .ref k2, .ref k3, u4, .ref k5, u6, u7, u8, u9, u10, u11, u12, u13, u14, u15, u16, u17, u18, .ref k19, .ref k20, .ref k21, .ref k22, .ref k23, u24, .ref k25, .ref k26, .ref k27, u28, u29, .ref k30, .ref k31, u32, .ref k33, u34, u35, .ref k36, .ref k37, .ref k38, .ref k39])])) := by
  refine CC_of (by decide) ?_
  intro p e s m below meth c A C hP hD hS
  obtain ⟨⟨hx, hb, hml, hown, hts⟩, hr, hlocks, hnm, hK, hE, hA, hZ⟩ := id C
  refine startW [.ref h0, .int (nI ta)] 2 (nle rfl) (lv := [(0, .ref h0), (1, .int (nI ta))]) rfl (fun ls hl => ?_)
  refine lv_iload_n hx hb d_X9_trayFault_0 rfl (lv_at hl 1 rfl) ?_
  have ct_1 : Cut [(h0, eO 9 [.ref k0, .ref k1, .ref k2, .ref k3, u4, .ref k5, u6, u7, u8, u9, u10, u11, u12, u13, u14, u15, u16, u17, u18, .ref k19, .ref k20, .ref k21, .ref k22, .ref k23, u24, .ref k25, .ref k26, .ref k27, u28, u29, .ref k30, .ref k31, u32, .ref k33, u34, u35, .ref k36, .ref k37, .ref k38, .ref k39]), (k37, eI (ty 0) 4 tsF)] [] [(h0, eO 9 [.ref k0, .ref k1, .ref k2, .ref k3, u4, .ref k5, u6, u7, u8, u9, u10, u11, u12, u13, u14, u15, u16, u17, u18, .ref k19, .ref k20, .ref k21, .ref k22, .ref k23, u24, .ref k25, .ref k26, .ref k27, u28, u29, .ref k30, .ref k31, u32, .ref k33, u34, u35, .ref k36, .ref k37, .ref k38, .ref k39]), (k37, eI (ty 0) 4 tsF)] [] [0, 1] := ⟨rfl, rfl, rfl, rfl, by decide⟩
  refine cont_I C hP hD hS ct_1 (run_S (As := [.int (nI ta)]) (rest := []) C hP hD hS ct_1 (c_misTT l D ty ta hta) kS_PinchedBillModel_352 rfl hl.1 rfl (nle rfl) d_X9_trayFault_1 ⟨by decide, by decide, by decide, by decide⟩) (fun r_3 w_4 H locs hw_2 hP hD hS => ?_)
  obtain ⟨rfl, rfl⟩ := hw_2
  have hP : va_P D vwCl [(h0, eO 9 [.ref k0, .ref k1, .ref k2, .ref k3, u4, .ref k5, u6, u7, u8, u9, u10, u11, u12, u13, u14, u15, u16, u17, u18, .ref k19, .ref k20, .ref k21, .ref k22, .ref k23, u24, .ref k25, .ref k26, .ref k27, u28, u29, .ref k30, .ref k31, u32, .ref k33, u34, u35, .ref k36, .ref k37, .ref k38, .ref k39]), (k37, eI (ty 0) 4 tsF)] H := hP
  have hD : va_D A [(h0, eO 9 [.ref k0, .ref k1, .ref k2, .ref k3, u4, .ref k5, u6, u7, u8, u9, u10, u11, u12, u13, u14, u15, u16, u17, u18, .ref k19, .ref k20, .ref k21, .ref k22, .ref k23, u24, .ref k25, .ref k26, .ref k27, u28, u29, .ref k30, .ref k31, u32, .ref k33, u34, u35, .ref k36, .ref k37, .ref k38, .ref k39]), (k37, eI (ty 0) 4 tsF)] := hD
  refine b_if_neT C 11 d_X9_trayFault_4 (by decide) (by decide) ?_
  refine lv_aload_n hx hb d_X9_trayFault_11 rfl (lv_at hl 0 rfl) ?_
  refine r_get (v := .ref k37) C hP 0 rfl rfl lay_X9 37 (by decide) k_1582 rfl d_X9_trayFault_12 ?_
  refine lv_iload_n hx hb d_X9_trayFault_15 rfl (lv_at hl 1 rfl) ?_
  refine r_iald (v := (-1)) C hP 1 rfl ta rfl (by omega) (by decide) (tsF_v (by omega)) d_X9_trayFault_16 ?_
  refine lv_iconst (v := (-1)) hx hb d_X9_trayFault_17 (by decide) ?_
  refine b_icmp_neF C 25 d_X9_trayFault_18 (by decide) (by decide) ?_
  refine lv_iconst (v := 2) hx hb d_X9_trayFault_21 (by decide) ?_
  refine lv_goto (tgt := 26) hx hb d_X9_trayFault_22 (by decide) ?_
  exact ret_I (w := [(h0, eO 9 [.ref k0, .ref k1, .ref k2, .ref k3, u4, .ref k5, u6, u7, u8, u9, u10, u11, u12, u13, u14, u15, u16, u17, u18, .ref k19, .ref k20, .ref k21, .ref k22, .ref k23, u24, .ref k25, .ref k26, .ref k27, u28, u29, .ref k30, .ref k31, u32, .ref k33, u34, u35, .ref k36, .ref k37, .ref k38, .ref k39])]) C hP hD hS [0] rfl rfl ⟨rfl, rfl⟩ (by decide) (by decide) d_X9_trayFault_26
set_option maxHeartbeats 4000000 in
set_option maxRecDepth 100000 in
theorem c_mtfF (l : Launch) (D : va_G) (ty : Nat → ClassId) (h0 : Nat) (k0 : Nat) (k1 : Nat) (k2 : Nat) (k3 : Nat) (k5 : Nat) (k19 : Nat) (k20 : Nat) (k21 : Nat) (k22 : Nat) (k23 : Nat) (k25 : Nat) (k26 : Nat) (k27 : Nat) (k30 : Nat) (k31 : Nat) (k33 : Nat) (k36 : Nat) (k37 : Nat) (k38 : Nat) (k39 : Nat) (u4 : Value) (u6 : Value) (u7 : Value) (u8 : Value) (u9 : Value) (u10 : Value) (u11 : Value) (u12 : Value) (u13 : Value) (u14 : Value) (u15 : Value) (u16 : Value) (u17 : Value) (u18 : Value) (u24 : Value) (u28 : Value) (u29 : Value) (u32 : Value) (u34 : Value) (u35 : Value) (t : Int32) (hno : ¬ (¬ t < 0 ∧ ¬ 3 < t)) : CC l D ty ⟨"PinchedBillModel", "trayFault", "(I)I"⟩ prog_11_method_72_code 2 (some .int) 2 45 0 0 [.ref h0, .int t] [(h0, eO 9 [.ref k0, .ref k1, .ref k2, .ref k3, u4, .ref k5, u6, u7, u8, u9, u10, u11, u12, u13, u14, u15, u16, u17, u18, .ref k19, .ref k20, .ref k21, .ref k22, .ref k23, u24, .ref k25, .ref k26, .ref k27, u28, u29, .ref k30, .ref k31, u32, .ref k33, u34, u35, .ref k36, .ref k37, .ref k38, .ref k39]), (k37, eI (ty 0) 4 tsF)] (QI D ty (fun (r : Int32) (w : va_W) => 1 = r ∧ w = [(h0, eO 9 [.ref k0, .ref k1, .ref k2, .ref k3, u4, .ref k5, u6, u7, u8, u9, u10, u11, u12, u13, u14, u15, u16, u17, u18, .ref k19, .ref k20, .ref k21, .ref k22, .ref k23, u24, .ref k25, .ref k26, .ref k27, u28, u29, .ref k30, .ref k31, u32, .ref k33, u34, u35, .ref k36, .ref k37, .ref k38, .ref k39])])) := by
  refine CC_of (by decide) ?_
  intro p e s m below meth c A C hP hD hS
  obtain ⟨⟨hx, hb, hml, hown, hts⟩, hr, hlocks, hnm, hK, hE, hA, hZ⟩ := id C
  refine startW [.ref h0, .int t] 2 (nle rfl) (lv := [(0, .ref h0), (1, .int t)]) rfl (fun ls hl => ?_)
  refine lv_iload_n hx hb d_X9_trayFault_0 rfl (lv_at hl 1 rfl) ?_
  have ct_1 : Cut [(h0, eO 9 [.ref k0, .ref k1, .ref k2, .ref k3, u4, .ref k5, u6, u7, u8, u9, u10, u11, u12, u13, u14, u15, u16, u17, u18, .ref k19, .ref k20, .ref k21, .ref k22, .ref k23, u24, .ref k25, .ref k26, .ref k27, u28, u29, .ref k30, .ref k31, u32, .ref k33, u34, u35, .ref k36, .ref k37, .ref k38, .ref k39]), (k37, eI (ty 0) 4 tsF)] [] [(h0, eO 9 [.ref k0, .ref k1, .ref k2, .ref k3, u4, .ref k5, u6, u7, u8, u9, u10, u11, u12, u13, u14, u15, u16, u17, u18, .ref k19, .ref k20, .ref k21, .ref k22, .ref k23, u24, .ref k25, .ref k26, .ref k27, u28, u29, .ref k30, .ref k31, u32, .ref k33, u34, u35, .ref k36, .ref k37, .ref k38, .ref k39]), (k37, eI (ty 0) 4 tsF)] [] [0, 1] := ⟨rfl, rfl, rfl, rfl, by decide⟩
  refine cont_I C hP hD hS ct_1 (run_S (As := [.int t]) (rest := []) C hP hD hS ct_1 (c_misTF l D ty t hno) kS_PinchedBillModel_352 rfl hl.1 rfl (nle rfl) d_X9_trayFault_1 ⟨by decide, by decide, by decide, by decide⟩) (fun r_3 w_4 H locs hw_2 hP hD hS => ?_)
  obtain ⟨rfl, rfl⟩ := hw_2
  have hP : va_P D vwCl [(h0, eO 9 [.ref k0, .ref k1, .ref k2, .ref k3, u4, .ref k5, u6, u7, u8, u9, u10, u11, u12, u13, u14, u15, u16, u17, u18, .ref k19, .ref k20, .ref k21, .ref k22, .ref k23, u24, .ref k25, .ref k26, .ref k27, u28, u29, .ref k30, .ref k31, u32, .ref k33, u34, u35, .ref k36, .ref k37, .ref k38, .ref k39]), (k37, eI (ty 0) 4 tsF)] H := hP
  have hD : va_D A [(h0, eO 9 [.ref k0, .ref k1, .ref k2, .ref k3, u4, .ref k5, u6, u7, u8, u9, u10, u11, u12, u13, u14, u15, u16, u17, u18, .ref k19, .ref k20, .ref k21, .ref k22, .ref k23, u24, .ref k25, .ref k26, .ref k27, u28, u29, .ref k30, .ref k31, u32, .ref k33, u34, u35, .ref k36, .ref k37, .ref k38, .ref k39]), (k37, eI (ty 0) 4 tsF)] := hD
  refine b_if_neF C 11 d_X9_trayFault_4 (by decide) (by decide) ?_
  refine lv_iconst (v := 1) hx hb d_X9_trayFault_7 (by decide) ?_
  refine lv_goto (tgt := 26) hx hb d_X9_trayFault_8 (by decide) ?_
  exact ret_I (w := [(h0, eO 9 [.ref k0, .ref k1, .ref k2, .ref k3, u4, .ref k5, u6, u7, u8, u9, u10, u11, u12, u13, u14, u15, u16, u17, u18, .ref k19, .ref k20, .ref k21, .ref k22, .ref k23, u24, .ref k25, .ref k26, .ref k27, u28, u29, .ref k30, .ref k31, u32, .ref k33, u34, u35, .ref k36, .ref k37, .ref k38, .ref k39])]) C hP hD hS [0] rfl rfl ⟨rfl, rfl⟩ (by decide) (by decide) d_X9_trayFault_26
set_option maxHeartbeats 4000000 in
set_option maxRecDepth 100000 in
theorem c_msfT (l : Launch) (D : va_G) (ty : Nat → ClassId) (h0 : Nat) (k0 : Nat) (k1 : Nat) (k2 : Nat) (k3 : Nat) (k5 : Nat) (k19 : Nat) (k20 : Nat) (k21 : Nat) (k22 : Nat) (k23 : Nat) (k25 : Nat) (k26 : Nat) (k27 : Nat) (k30 : Nat) (k31 : Nat) (k33 : Nat) (k36 : Nat) (k37 : Nat) (k38 : Nat) (k39 : Nat) (u4 : Value) (u6 : Value) (u7 : Value) (u8 : Value) (u9 : Value) (u10 : Value) (u11 : Value) (u12 : Value) (u13 : Value) (u14 : Value) (u15 : Value) (u16 : Value) (u17 : Value) (u18 : Value) (u24 : Value) (u28 : Value) (u29 : Value) (u32 : Value) (u34 : Value) (u35 : Value) (ta : Nat) (hta : ta < 4) : CC l D ty ⟨"PinchedBillModel", "seenFault", "(I)I"⟩ prog_11_method_114_code 5 (some .int) 3 66 0 0 [.ref h0, .int (nI ta)] [(h0, eO 9 [.ref k0, .ref k1, .ref k2, .ref k3, u4, .ref k5, u6, u7, u8, u9, u10, u11, u12, u13, u14, u15, u16, u17, u18, .ref k19, .ref k20, .ref k21, .ref k22, .ref k23, u24, .ref k25, .ref k26, .ref k27, u28, u29, .ref k30, .ref k31, u32, .ref k33, u34, u35, .ref k36, .ref k37, .ref k38, .ref k39]), (k37, eI (ty 0) 4 tsF)] (QI D ty (fun (r : Int32) (w : va_W) => 2 = r ∧ w = [(h0, eO 9 [.ref k0, .ref k1, .ref k2, .ref k3, u4, .ref k5, u6, u7, u8, u9, u10, u11, u12, u13, u14, u15, u16, u17, u18, .ref k19, .ref k20, .ref k21, .ref k22, .ref k23, u24, .ref k25, .ref k26, .ref k27, u28, u29, .ref k30, .ref k31, u32, .ref k33, u34, u35, .ref k36, .ref k37, .ref k38, .ref k39])])) := by
  refine CC_of (by decide) ?_
  intro p e s m below meth c A C hP hD hS
  obtain ⟨⟨hx, hb, hml, hown, hts⟩, hr, hlocks, hnm, hK, hE, hA, hZ⟩ := id C
  refine startW [.ref h0, .int (nI ta)] 5 (nle rfl) (lv := [(0, .ref h0), (1, .int (nI ta))]) rfl (fun ls hl => ?_)
  refine lv_aload_n hx hb d_X9_seenFault_0 rfl (lv_at hl 0 rfl) ?_
  refine lv_iload_n hx hb d_X9_seenFault_1 rfl (lv_at hl 1 rfl) ?_
  have ct_1 : Cut [(h0, eO 9 [.ref k0, .ref k1, .ref k2, .ref k3, u4, .ref k5, u6, u7, u8, u9, u10, u11, u12, u13, u14, u15, u16, u17, u18, .ref k19, .ref k20, .ref k21, .ref k22, .ref k23, u24, .ref k25, .ref k26, .ref k27, u28, u29, .ref k30, .ref k31, u32, .ref k33, u34, u35, .ref k36, .ref k37, .ref k38, .ref k39]), (k37, eI (ty 0) 4 tsF)] [(h0, eO 9 [.ref k0, .ref k1, .ref k2, .ref k3, u4, .ref k5, u6, u7, u8, u9, u10, u11, u12, u13, u14, u15, u16, u17, u18, .ref k19, .ref k20, .ref k21, .ref k22, .ref k23, u24, .ref k25, .ref k26, .ref k27, u28, u29, .ref k30, .ref k31, u32, .ref k33, u34, u35, .ref k36, .ref k37, .ref k38, .ref k39]), (k37, eI (ty 0) 4 tsF)] [] [0, 1] [] := ⟨rfl, rfl, rfl, rfl, by decide⟩
  refine cont_I C hP hD hS ct_1 (run_V (As := [.int (nI ta)]) (rest := []) C hP hD hS ct_1 (c_mtfT l D ty h0 k0 k1 k2 k3 k5 k19 k20 k21 k22 k23 k25 k26 k27 k30 k31 k33 k36 k37 k38 k39 u4 u6 u7 u8 u9 u10 u11 u12 u13 u14 u15 u16 u17 u18 u24 u28 u29 u32 u34 u35 ta hta) kV_PinchedBillModel_365 0 rfl rfl rfl rfl hl.1 rfl (nle rfl) d_X9_seenFault_2 ⟨by decide, by decide, by decide, by decide⟩) (fun r_3 w_4 H locs hw_2 hP hD hS => ?_)
  obtain ⟨rfl, rfl⟩ := hw_2
  have hP : va_P D vwCl [(h0, eO 9 [.ref k0, .ref k1, .ref k2, .ref k3, u4, .ref k5, u6, u7, u8, u9, u10, u11, u12, u13, u14, u15, u16, u17, u18, .ref k19, .ref k20, .ref k21, .ref k22, .ref k23, u24, .ref k25, .ref k26, .ref k27, u28, u29, .ref k30, .ref k31, u32, .ref k33, u34, u35, .ref k36, .ref k37, .ref k38, .ref k39])] H := hP
  have hD : va_D A [(h0, eO 9 [.ref k0, .ref k1, .ref k2, .ref k3, u4, .ref k5, u6, u7, u8, u9, u10, u11, u12, u13, u14, u15, u16, u17, u18, .ref k19, .ref k20, .ref k21, .ref k22, .ref k23, u24, .ref k25, .ref k26, .ref k27, u28, u29, .ref k30, .ref k31, u32, .ref k33, u34, u35, .ref k36, .ref k37, .ref k38, .ref k39])] := hD
  refine lv_istore_n (lv' := [(2, .int 2), (0, .ref h0), (1, .int (nI ta))]) hx hb d_X9_seenFault_5 rfl hl (by decide) rfl (fun ls hl => ?_)
  refine lv_iload_n hx hb d_X9_seenFault_6 rfl (lv_at hl 0 rfl) ?_
  refine b_if_eqF C 12 d_X9_seenFault_7 (by decide) (by decide) ?_
  refine lv_iload_n hx hb d_X9_seenFault_10 rfl (lv_at hl 0 rfl) ?_
  exact ret_I (w := [(h0, eO 9 [.ref k0, .ref k1, .ref k2, .ref k3, u4, .ref k5, u6, u7, u8, u9, u10, u11, u12, u13, u14, u15, u16, u17, u18, .ref k19, .ref k20, .ref k21, .ref k22, .ref k23, u24, .ref k25, .ref k26, .ref k27, u28, u29, .ref k30, .ref k31, u32, .ref k33, u34, u35, .ref k36, .ref k37, .ref k38, .ref k39])]) C hP hD hS [0] rfl rfl ⟨rfl, rfl⟩ (by decide) (by decide) d_X9_seenFault_11
set_option maxHeartbeats 4000000 in
set_option maxRecDepth 100000 in
theorem c_msfF (l : Launch) (D : va_G) (ty : Nat → ClassId) (h0 : Nat) (k0 : Nat) (k1 : Nat) (k2 : Nat) (k3 : Nat) (k5 : Nat) (k19 : Nat) (k20 : Nat) (k21 : Nat) (k22 : Nat) (k23 : Nat) (k25 : Nat) (k26 : Nat) (k27 : Nat) (k30 : Nat) (k31 : Nat) (k33 : Nat) (k36 : Nat) (k37 : Nat) (k38 : Nat) (k39 : Nat) (u4 : Value) (u6 : Value) (u7 : Value) (u8 : Value) (u9 : Value) (u10 : Value) (u11 : Value) (u12 : Value) (u13 : Value) (u14 : Value) (u15 : Value) (u16 : Value) (u17 : Value) (u18 : Value) (u24 : Value) (u28 : Value) (u29 : Value) (u32 : Value) (u34 : Value) (u35 : Value) (t : Int32) (hno : ¬ (¬ t < 0 ∧ ¬ 3 < t)) : CC l D ty ⟨"PinchedBillModel", "seenFault", "(I)I"⟩ prog_11_method_114_code 5 (some .int) 3 66 0 0 [.ref h0, .int t] [(h0, eO 9 [.ref k0, .ref k1, .ref k2, .ref k3, u4, .ref k5, u6, u7, u8, u9, u10, u11, u12, u13, u14, u15, u16, u17, u18, .ref k19, .ref k20, .ref k21, .ref k22, .ref k23, u24, .ref k25, .ref k26, .ref k27, u28, u29, .ref k30, .ref k31, u32, .ref k33, u34, u35, .ref k36, .ref k37, .ref k38, .ref k39]), (k37, eI (ty 0) 4 tsF)] (QI D ty (fun (r : Int32) (w : va_W) => 1 = r ∧ w = [(h0, eO 9 [.ref k0, .ref k1, .ref k2, .ref k3, u4, .ref k5, u6, u7, u8, u9, u10, u11, u12, u13, u14, u15, u16, u17, u18, .ref k19, .ref k20, .ref k21, .ref k22, .ref k23, u24, .ref k25, .ref k26, .ref k27, u28, u29, .ref k30, .ref k31, u32, .ref k33, u34, u35, .ref k36, .ref k37, .ref k38, .ref k39])])) := by
  refine CC_of (by decide) ?_
  intro p e s m below meth c A C hP hD hS
  obtain ⟨⟨hx, hb, hml, hown, hts⟩, hr, hlocks, hnm, hK, hE, hA, hZ⟩ := id C
  refine startW [.ref h0, .int t] 5 (nle rfl) (lv := [(0, .ref h0), (1, .int t)]) rfl (fun ls hl => ?_)
  refine lv_aload_n hx hb d_X9_seenFault_0 rfl (lv_at hl 0 rfl) ?_
  refine lv_iload_n hx hb d_X9_seenFault_1 rfl (lv_at hl 1 rfl) ?_
  have ct_1 : Cut [(h0, eO 9 [.ref k0, .ref k1, .ref k2, .ref k3, u4, .ref k5, u6, u7, u8, u9, u10, u11, u12, u13, u14, u15, u16, u17, u18, .ref k19, .ref k20, .ref k21, .ref k22, .ref k23, u24, .ref k25, .ref k26, .ref k27, u28, u29, .ref k30, .ref k31, u32, .ref k33, u34, u35, .ref k36, .ref k37, .ref k38, .ref k39]), (k37, eI (ty 0) 4 tsF)] [(h0, eO 9 [.ref k0, .ref k1, .ref k2, .ref k3, u4, .ref k5, u6, u7, u8, u9, u10, u11, u12, u13, u14, u15, u16, u17, u18, .ref k19, .ref k20, .ref k21, .ref k22, .ref k23, u24, .ref k25, .ref k26, .ref k27, u28, u29, .ref k30, .ref k31, u32, .ref k33, u34, u35, .ref k36, .ref k37, .ref k38, .ref k39]), (k37, eI (ty 0) 4 tsF)] [] [0, 1] [] := ⟨rfl, rfl, rfl, rfl, by decide⟩
  refine cont_I C hP hD hS ct_1 (run_V (As := [.int t]) (rest := []) C hP hD hS ct_1 (c_mtfF l D ty h0 k0 k1 k2 k3 k5 k19 k20 k21 k22 k23 k25 k26 k27 k30 k31 k33 k36 k37 k38 k39 u4 u6 u7 u8 u9 u10 u11 u12 u13 u14 u15 u16 u17 u18 u24 u28 u29 u32 u34 u35 t hno) kV_PinchedBillModel_365 0 rfl rfl rfl rfl hl.1 rfl (nle rfl) d_X9_seenFault_2 ⟨by decide, by decide, by decide, by decide⟩) (fun r_3 w_4 H locs hw_2 hP hD hS => ?_)
  obtain ⟨rfl, rfl⟩ := hw_2
  have hP : va_P D vwCl [(h0, eO 9 [.ref k0, .ref k1, .ref k2, .ref k3, u4, .ref k5, u6, u7, u8, u9, u10, u11, u12, u13, u14, u15, u16, u17, u18, .ref k19, .ref k20, .ref k21, .ref k22, .ref k23, u24, .ref k25, .ref k26, .ref k27, u28, u29, .ref k30, .ref k31, u32, .ref k33, u34, u35, .ref k36, .ref k37, .ref k38, .ref k39])] H := hP
  have hD : va_D A [(h0, eO 9 [.ref k0, .ref k1, .ref k2, .ref k3, u4, .ref k5, u6, u7, u8, u9, u10, u11, u12, u13, u14, u15, u16, u17, u18, .ref k19, .ref k20, .ref k21, .ref k22, .ref k23, u24, .ref k25, .ref k26, .ref k27, u28, u29, .ref k30, .ref k31, u32, .ref k33, u34, u35, .ref k36, .ref k37, .ref k38, .ref k39])] := hD
  refine lv_istore_n (lv' := [(2, .int 1), (0, .ref h0), (1, .int t)]) hx hb d_X9_seenFault_5 rfl hl (by decide) rfl (fun ls hl => ?_)
  refine lv_iload_n hx hb d_X9_seenFault_6 rfl (lv_at hl 0 rfl) ?_
  refine b_if_eqF C 12 d_X9_seenFault_7 (by decide) (by decide) ?_
  refine lv_iload_n hx hb d_X9_seenFault_10 rfl (lv_at hl 0 rfl) ?_
  exact ret_I (w := [(h0, eO 9 [.ref k0, .ref k1, .ref k2, .ref k3, u4, .ref k5, u6, u7, u8, u9, u10, u11, u12, u13, u14, u15, u16, u17, u18, .ref k19, .ref k20, .ref k21, .ref k22, .ref k23, u24, .ref k25, .ref k26, .ref k27, u28, u29, .ref k30, .ref k31, u32, .ref k33, u34, u35, .ref k36, .ref k37, .ref k38, .ref k39])]) C hP hD hS [0] rfl rfl ⟨rfl, rfl⟩ (by decide) (by decide) d_X9_seenFault_11
set_option maxHeartbeats 4000000 in
set_option maxRecDepth 100000 in
theorem m_judge2 (l : Launch) (D : va_G) (ty : Nat → ClassId) (h0 : Nat) (k0 : Nat) (k1 : Nat) (k2 : Nat) (k3 : Nat) (k5 : Nat) (k19 : Nat) (k20 : Nat) (k21 : Nat) (k22 : Nat) (k23 : Nat) (k25 : Nat) (k26 : Nat) (k27 : Nat) (k30 : Nat) (k31 : Nat) (k33 : Nat) (k36 : Nat) (k37 : Nat) (k38 : Nat) (k39 : Nat) (ta : Nat) (wh : Int32) (hta : ta < 4) : CC l D ty ⟨"PinchedBillModel", "judge", "(II)I"⟩ prog_11_method_75_code 7 (some .int) 3 66 0 0 [.ref h0, .int (nI ta), .int wh] [(h0, eO 9 [.ref k0, .ref k1, .ref k2, .ref k3, .int 0, .ref k5, .int 0, .int 0, .int 0, .int 0, .int 0, .int 0, .int 0, .int 0, .int 0, .int (-1), .int 0, .int 0, .int 0, .ref k19, .ref k20, .ref k21, .ref k22, .ref k23, .int 0, .ref k25, .ref k26, .ref k27, .int 0, .int 0, .ref k30, .ref k31, .int 0, .ref k33, .int 0, .int 0, .ref k36, .ref k37, .ref k38, .ref k39]), (k37, eI (ty 0) 4 tsF)] (QI D ty (fun (r : Int32) (w : va_W) => ∃ (w6 : Value) (w7 : Value) (w8 : Value) (w9 : Value) (w10 : Value) (w11 : Value) (w12 : Value) (w13 : Value) (w14 : Value) (w15 : Value) (w16 : Value) (w17 : Value) (w18 : Value) (w24 : Value) (w28 : Value) (w29 : Value) (w32 : Value) (w34 : Value) (w35 : Value), 0 = r ∧ w = [(h0, eO 9 [.ref k0, .ref k1, .ref k2, .ref k3, .int 2, .ref k5, w6, w7, w8, w9, w10, w11, w12, w13, w14, w15, w16, w17, w18, .ref k19, .ref k20, .ref k21, .ref k22, .ref k23, w24, .ref k25, .ref k26, .ref k27, w28, w29, .ref k30, .ref k31, w32, .ref k33, w34, w35, .ref k36, .ref k37, .ref k38, .ref k39])])) := by
  refine CC_of (by decide) ?_
  intro p e s m below meth c A C hP hD hS
  obtain ⟨⟨hx, hb, hml, hown, hts⟩, hr, hlocks, hnm, hK, hE, hA, hZ⟩ := id C
  refine startW [.ref h0, .int (nI ta), .int wh] 7 (nle rfl) (lv := [(0, .ref h0), (1, .int (nI ta)), (2, .int wh)]) rfl (fun ls hl => ?_)
  refine lv_aload_n hx hb d_X9_judge_0 rfl (lv_at hl 0 rfl) ?_
  refine lv_aload_n hx hb d_X9_judge_1 rfl (lv_at hl 0 rfl) ?_
  refine lv_iload_n hx hb d_X9_judge_2 rfl (lv_at hl 1 rfl) ?_
  have ct_1 : Cut [(h0, eO 9 [.ref k0, .ref k1, .ref k2, .ref k3, .int 0, .ref k5, .int 0, .int 0, .int 0, .int 0, .int 0, .int 0, .int 0, .int 0, .int 0, .int (-1), .int 0, .int 0, .int 0, .ref k19, .ref k20, .ref k21, .ref k22, .ref k23, .int 0, .ref k25, .ref k26, .ref k27, .int 0, .int 0, .ref k30, .ref k31, .int 0, .ref k33, .int 0, .int 0, .ref k36, .ref k37, .ref k38, .ref k39]), (k37, eI (ty 0) 4 tsF)] [(h0, eO 9 [.ref k0, .ref k1, .ref k2, .ref k3, .int 0, .ref k5, .int 0, .int 0, .int 0, .int 0, .int 0, .int 0, .int 0, .int 0, .int 0, .int (-1), .int 0, .int 0, .int 0, .ref k19, .ref k20, .ref k21, .ref k22, .ref k23, .int 0, .ref k25, .ref k26, .ref k27, .int 0, .int 0, .ref k30, .ref k31, .int 0, .ref k33, .int 0, .int 0, .ref k36, .ref k37, .ref k38, .ref k39]), (k37, eI (ty 0) 4 tsF)] [] [0, 1] [] := ⟨rfl, rfl, rfl, rfl, by decide⟩
  refine cont_I C hP hD hS ct_1 (run_V (As := [.int (nI ta)]) (rest := [.ref h0]) C hP hD hS ct_1 (c_mtfT l D ty h0 k0 k1 k2 k3 k5 k19 k20 k21 k22 k23 k25 k26 k27 k30 k31 k33 k36 k37 k38 k39 (.int 0) (.int 0) (.int 0) (.int 0) (.int 0) (.int 0) (.int 0) (.int 0) (.int 0) (.int 0) (.int (-1)) (.int 0) (.int 0) (.int 0) (.int 0) (.int 0) (.int 0) (.int 0) (.int 0) (.int 0) ta hta) kV_PinchedBillModel_365 0 rfl rfl rfl rfl hl.1 rfl (nle rfl) d_X9_judge_3 ⟨by decide, by decide, by decide, by decide⟩) (fun r_3 w_4 H locs hw_2 hP hD hS => ?_)
  obtain ⟨rfl, rfl⟩ := hw_2
  have hP : va_P D vwCl [(h0, eO 9 [.ref k0, .ref k1, .ref k2, .ref k3, .int 0, .ref k5, .int 0, .int 0, .int 0, .int 0, .int 0, .int 0, .int 0, .int 0, .int 0, .int (-1), .int 0, .int 0, .int 0, .ref k19, .ref k20, .ref k21, .ref k22, .ref k23, .int 0, .ref k25, .ref k26, .ref k27, .int 0, .int 0, .ref k30, .ref k31, .int 0, .ref k33, .int 0, .int 0, .ref k36, .ref k37, .ref k38, .ref k39])] H := hP
  have hD : va_D A [(h0, eO 9 [.ref k0, .ref k1, .ref k2, .ref k3, .int 0, .ref k5, .int 0, .int 0, .int 0, .int 0, .int 0, .int 0, .int 0, .int 0, .int 0, .int (-1), .int 0, .int 0, .int 0, .ref k19, .ref k20, .ref k21, .ref k22, .ref k23, .int 0, .ref k25, .ref k26, .ref k27, .int 0, .int 0, .ref k30, .ref k31, .int 0, .ref k33, .int 0, .int 0, .ref k36, .ref k37, .ref k38, .ref k39])] := hD
  refine r_put (w := [(h0, eO 9 [.ref k0, .ref k1, .ref k2, .ref k3, .int 2, .ref k5, .int 0, .int 0, .int 0, .int 0, .int 0, .int 0, .int 0, .int 0, .int 0, .int (-1), .int 0, .int 0, .int 0, .ref k19, .ref k20, .ref k21, .ref k22, .ref k23, .int 0, .ref k25, .ref k26, .ref k27, .int 0, .int 0, .ref k30, .ref k31, .int 0, .ref k33, .int 0, .int 0, .ref k36, .ref k37, .ref k38, .ref k39])]) C hP hD hS 0 rfl rfl lay_X9 tok_X9 nmo_X9 4 (by decide) k_1549 rfl rfl rfl (nle rfl) rfl d_X9_judge_6 (fun H locs hP hD hS => ?_)
  refine lv_aload_n hx hb d_X9_judge_9 rfl (lv_at hl 0 rfl) ?_
  refine r_get (v := .int 2) C hP 0 rfl rfl lay_X9 4 (by decide) k_1549 rfl d_X9_judge_10 ?_
  refine b_if_neT C 33 d_X9_judge_13 (by decide) (by decide) ?_
  refine lv_aload_n hx hb d_X9_judge_33 rfl (lv_at hl 0 rfl) ?_
  refine r_get (v := .int 2) C hP 0 rfl rfl lay_X9 4 (by decide) k_1549 rfl d_X9_judge_34 ?_
  refine b_if_leF C 42 d_X9_judge_37 (by decide) (by decide) ?_
  refine lv_iconst (v := 0) hx hb d_X9_judge_40 (by decide) ?_
  exact ret_I (w := [(h0, eO 9 [.ref k0, .ref k1, .ref k2, .ref k3, .int 2, .ref k5, .int 0, .int 0, .int 0, .int 0, .int 0, .int 0, .int 0, .int 0, .int 0, .int (-1), .int 0, .int 0, .int 0, .ref k19, .ref k20, .ref k21, .ref k22, .ref k23, .int 0, .ref k25, .ref k26, .ref k27, .int 0, .int 0, .ref k30, .ref k31, .int 0, .ref k33, .int 0, .int 0, .ref k36, .ref k37, .ref k38, .ref k39])]) C hP hD hS [0] rfl rfl ⟨(.int 0), (.int 0), (.int 0), (.int 0), (.int 0), (.int 0), (.int 0), (.int 0), (.int 0), (.int (-1)), (.int 0), (.int 0), (.int 0), (.int 0), (.int 0), (.int 0), (.int 0), (.int 0), (.int 0), rfl, rfl⟩ (by decide) (by decide) d_X9_judge_41
set_option maxHeartbeats 4000000 in
set_option maxRecDepth 100000 in
theorem m_judge1 (l : Launch) (D : va_G) (ty : Nat → ClassId) (h0 : Nat) (k0 : Nat) (k1 : Nat) (k2 : Nat) (k3 : Nat) (k5 : Nat) (k19 : Nat) (k20 : Nat) (k21 : Nat) (k22 : Nat) (k23 : Nat) (k25 : Nat) (k26 : Nat) (k27 : Nat) (k30 : Nat) (k31 : Nat) (k33 : Nat) (k36 : Nat) (k37 : Nat) (k38 : Nat) (k39 : Nat) (t : Int32) (wh : Int32) (hno : ¬ (¬ t < 0 ∧ ¬ 3 < t)) : CC l D ty ⟨"PinchedBillModel", "judge", "(II)I"⟩ prog_11_method_75_code 7 (some .int) 3 66 0 0 [.ref h0, .int t, .int wh] [(h0, eO 9 [.ref k0, .ref k1, .ref k2, .ref k3, .int 0, .ref k5, .int 0, .int 0, .int 0, .int 0, .int 0, .int 0, .int 0, .int 0, .int 0, .int (-1), .int 0, .int 0, .int 0, .ref k19, .ref k20, .ref k21, .ref k22, .ref k23, .int 0, .ref k25, .ref k26, .ref k27, .int 0, .int 0, .ref k30, .ref k31, .int 0, .ref k33, .int 0, .int 0, .ref k36, .ref k37, .ref k38, .ref k39]), (k37, eI (ty 0) 4 tsF)] (QI D ty (fun (r : Int32) (w : va_W) => ∃ (w6 : Value) (w7 : Value) (w8 : Value) (w9 : Value) (w10 : Value) (w11 : Value) (w12 : Value) (w13 : Value) (w14 : Value) (w15 : Value) (w16 : Value) (w17 : Value) (w18 : Value) (w24 : Value) (w28 : Value) (w29 : Value) (w32 : Value) (w34 : Value) (w35 : Value), 0 = r ∧ w = [(h0, eO 9 [.ref k0, .ref k1, .ref k2, .ref k3, .int 1, .ref k5, w6, w7, w8, w9, w10, w11, w12, w13, w14, w15, w16, w17, w18, .ref k19, .ref k20, .ref k21, .ref k22, .ref k23, w24, .ref k25, .ref k26, .ref k27, w28, w29, .ref k30, .ref k31, w32, .ref k33, w34, w35, .ref k36, .ref k37, .ref k38, .ref k39])])) := by
  refine CC_of (by decide) ?_
  intro p e s m below meth c A C hP hD hS
  obtain ⟨⟨hx, hb, hml, hown, hts⟩, hr, hlocks, hnm, hK, hE, hA, hZ⟩ := id C
  refine startW [.ref h0, .int t, .int wh] 7 (nle rfl) (lv := [(0, .ref h0), (1, .int t), (2, .int wh)]) rfl (fun ls hl => ?_)
  refine lv_aload_n hx hb d_X9_judge_0 rfl (lv_at hl 0 rfl) ?_
  refine lv_aload_n hx hb d_X9_judge_1 rfl (lv_at hl 0 rfl) ?_
  refine lv_iload_n hx hb d_X9_judge_2 rfl (lv_at hl 1 rfl) ?_
  have ct_1 : Cut [(h0, eO 9 [.ref k0, .ref k1, .ref k2, .ref k3, .int 0, .ref k5, .int 0, .int 0, .int 0, .int 0, .int 0, .int 0, .int 0, .int 0, .int 0, .int (-1), .int 0, .int 0, .int 0, .ref k19, .ref k20, .ref k21, .ref k22, .ref k23, .int 0, .ref k25, .ref k26, .ref k27, .int 0, .int 0, .ref k30, .ref k31, .int 0, .ref k33, .int 0, .int 0, .ref k36, .ref k37, .ref k38, .ref k39]), (k37, eI (ty 0) 4 tsF)] [(h0, eO 9 [.ref k0, .ref k1, .ref k2, .ref k3, .int 0, .ref k5, .int 0, .int 0, .int 0, .int 0, .int 0, .int 0, .int 0, .int 0, .int 0, .int (-1), .int 0, .int 0, .int 0, .ref k19, .ref k20, .ref k21, .ref k22, .ref k23, .int 0, .ref k25, .ref k26, .ref k27, .int 0, .int 0, .ref k30, .ref k31, .int 0, .ref k33, .int 0, .int 0, .ref k36, .ref k37, .ref k38, .ref k39]), (k37, eI (ty 0) 4 tsF)] [] [0, 1] [] := ⟨rfl, rfl, rfl, rfl, by decide⟩
  refine cont_I C hP hD hS ct_1 (run_V (As := [.int t]) (rest := [.ref h0]) C hP hD hS ct_1 (c_mtfF l D ty h0 k0 k1 k2 k3 k5 k19 k20 k21 k22 k23 k25 k26 k27 k30 k31 k33 k36 k37 k38 k39 (.int 0) (.int 0) (.int 0) (.int 0) (.int 0) (.int 0) (.int 0) (.int 0) (.int 0) (.int 0) (.int (-1)) (.int 0) (.int 0) (.int 0) (.int 0) (.int 0) (.int 0) (.int 0) (.int 0) (.int 0) t hno) kV_PinchedBillModel_365 0 rfl rfl rfl rfl hl.1 rfl (nle rfl) d_X9_judge_3 ⟨by decide, by decide, by decide, by decide⟩) (fun r_3 w_4 H locs hw_2 hP hD hS => ?_)
  obtain ⟨rfl, rfl⟩ := hw_2
  have hP : va_P D vwCl [(h0, eO 9 [.ref k0, .ref k1, .ref k2, .ref k3, .int 0, .ref k5, .int 0, .int 0, .int 0, .int 0, .int 0, .int 0, .int 0, .int 0, .int 0, .int (-1), .int 0, .int 0, .int 0, .ref k19, .ref k20, .ref k21, .ref k22, .ref k23, .int 0, .ref k25, .ref k26, .ref k27, .int 0, .int 0, .ref k30, .ref k31, .int 0, .ref k33, .int 0, .int 0, .ref k36, .ref k37, .ref k38, .ref k39])] H := hP
  have hD : va_D A [(h0, eO 9 [.ref k0, .ref k1, .ref k2, .ref k3, .int 0, .ref k5, .int 0, .int 0, .int 0, .int 0, .int 0, .int 0, .int 0, .int 0, .int 0, .int (-1), .int 0, .int 0, .int 0, .ref k19, .ref k20, .ref k21, .ref k22, .ref k23, .int 0, .ref k25, .ref k26, .ref k27, .int 0, .int 0, .ref k30, .ref k31, .int 0, .ref k33, .int 0, .int 0, .ref k36, .ref k37, .ref k38, .ref k39])] := hD
  refine r_put (w := [(h0, eO 9 [.ref k0, .ref k1, .ref k2, .ref k3, .int 1, .ref k5, .int 0, .int 0, .int 0, .int 0, .int 0, .int 0, .int 0, .int 0, .int 0, .int (-1), .int 0, .int 0, .int 0, .ref k19, .ref k20, .ref k21, .ref k22, .ref k23, .int 0, .ref k25, .ref k26, .ref k27, .int 0, .int 0, .ref k30, .ref k31, .int 0, .ref k33, .int 0, .int 0, .ref k36, .ref k37, .ref k38, .ref k39])]) C hP hD hS 0 rfl rfl lay_X9 tok_X9 nmo_X9 4 (by decide) k_1549 rfl rfl rfl (nle rfl) rfl d_X9_judge_6 (fun H locs hP hD hS => ?_)
  refine lv_aload_n hx hb d_X9_judge_9 rfl (lv_at hl 0 rfl) ?_
  refine r_get (v := .int 1) C hP 0 rfl rfl lay_X9 4 (by decide) k_1549 rfl d_X9_judge_10 ?_
  refine b_if_neT C 33 d_X9_judge_13 (by decide) (by decide) ?_
  refine lv_aload_n hx hb d_X9_judge_33 rfl (lv_at hl 0 rfl) ?_
  refine r_get (v := .int 1) C hP 0 rfl rfl lay_X9 4 (by decide) k_1549 rfl d_X9_judge_34 ?_
  refine b_if_leF C 42 d_X9_judge_37 (by decide) (by decide) ?_
  refine lv_iconst (v := 0) hx hb d_X9_judge_40 (by decide) ?_
  exact ret_I (w := [(h0, eO 9 [.ref k0, .ref k1, .ref k2, .ref k3, .int 1, .ref k5, .int 0, .int 0, .int 0, .int 0, .int 0, .int 0, .int 0, .int 0, .int 0, .int (-1), .int 0, .int 0, .int 0, .ref k19, .ref k20, .ref k21, .ref k22, .ref k23, .int 0, .ref k25, .ref k26, .ref k27, .int 0, .int 0, .ref k30, .ref k31, .int 0, .ref k33, .int 0, .int 0, .ref k36, .ref k37, .ref k38, .ref k39])]) C hP hD hS [0] rfl rfl ⟨(.int 0), (.int 0), (.int 0), (.int 0), (.int 0), (.int 0), (.int 0), (.int 0), (.int 0), (.int (-1)), (.int 0), (.int 0), (.int 0), (.int 0), (.int 0), (.int 0), (.int 0), (.int 0), (.int 0), rfl, rfl⟩ (by decide) (by decide) d_X9_judge_41
set_option maxHeartbeats 4000000 in
set_option maxRecDepth 100000 in
theorem m_perform2 (l : Launch) (D : va_G) (ty : Nat → ClassId) (h0 : Nat) (k0 : Nat) (k1 : Nat) (k2 : Nat) (k3 : Nat) (k5 : Nat) (k19 : Nat) (k20 : Nat) (k21 : Nat) (k22 : Nat) (k23 : Nat) (k25 : Nat) (k26 : Nat) (k27 : Nat) (k30 : Nat) (k31 : Nat) (k33 : Nat) (k36 : Nat) (k37 : Nat) (k38 : Nat) (k39 : Nat) (ta : Nat) (hta : ta < 4) : CC l D ty ⟨"PinchedBillModel", "perform", "(I)I"⟩ prog_11_method_76_code 3 (some .int) 3 66 0 0 [.ref h0, .int (nI ta)] [(h0, eO 9 [.ref k0, .ref k1, .ref k2, .ref k3, .int 0, .ref k5, .int 0, .int 0, .int 0, .int 0, .int 0, .int 0, .int 0, .int 0, .int 0, .int (-1), .int 0, .int 0, .int 0, .ref k19, .ref k20, .ref k21, .ref k22, .ref k23, .int 0, .ref k25, .ref k26, .ref k27, .int 0, .int 0, .ref k30, .ref k31, .int 0, .ref k33, .int 0, .int 0, .ref k36, .ref k37, .ref k38, .ref k39]), (k37, eI (ty 0) 4 tsF)] (QI D ty (fun (r : Int32) (w : va_W) => ∃ (w6 : Value) (w7 : Value) (w8 : Value) (w9 : Value) (w10 : Value) (w11 : Value) (w12 : Value) (w13 : Value) (w14 : Value) (w15 : Value) (w16 : Value) (w17 : Value) (w18 : Value) (w24 : Value) (w28 : Value) (w29 : Value) (w32 : Value) (w34 : Value) (w35 : Value), 0 = r ∧ w = [(h0, eO 9 [.ref k0, .ref k1, .ref k2, .ref k3, .int 2, .ref k5, w6, w7, w8, w9, w10, w11, w12, w13, w14, w15, w16, w17, w18, .ref k19, .ref k20, .ref k21, .ref k22, .ref k23, w24, .ref k25, .ref k26, .ref k27, w28, w29, .ref k30, .ref k31, w32, .ref k33, w34, w35, .ref k36, .ref k37, .ref k38, .ref k39])])) := by
  refine CC_of (by decide) ?_
  intro p e s m below meth c A C hP hD hS
  obtain ⟨⟨hx, hb, hml, hown, hts⟩, hr, hlocks, hnm, hK, hE, hA, hZ⟩ := id C
  refine startW [.ref h0, .int (nI ta)] 3 (nle rfl) (lv := [(0, .ref h0), (1, .int (nI ta))]) rfl (fun ls hl => ?_)
  refine lv_aload_n hx hb d_X9_perform_0 rfl (lv_at hl 0 rfl) ?_
  refine lv_aload_n hx hb d_X9_perform_1 rfl (lv_at hl 0 rfl) ?_
  refine lv_iload_n hx hb d_X9_perform_2 rfl (lv_at hl 1 rfl) ?_
  have ct_1 : Cut [(h0, eO 9 [.ref k0, .ref k1, .ref k2, .ref k3, .int 0, .ref k5, .int 0, .int 0, .int 0, .int 0, .int 0, .int 0, .int 0, .int 0, .int 0, .int (-1), .int 0, .int 0, .int 0, .ref k19, .ref k20, .ref k21, .ref k22, .ref k23, .int 0, .ref k25, .ref k26, .ref k27, .int 0, .int 0, .ref k30, .ref k31, .int 0, .ref k33, .int 0, .int 0, .ref k36, .ref k37, .ref k38, .ref k39]), (k37, eI (ty 0) 4 tsF)] [(h0, eO 9 [.ref k0, .ref k1, .ref k2, .ref k3, .int 0, .ref k5, .int 0, .int 0, .int 0, .int 0, .int 0, .int 0, .int 0, .int 0, .int 0, .int (-1), .int 0, .int 0, .int 0, .ref k19, .ref k20, .ref k21, .ref k22, .ref k23, .int 0, .ref k25, .ref k26, .ref k27, .int 0, .int 0, .ref k30, .ref k31, .int 0, .ref k33, .int 0, .int 0, .ref k36, .ref k37, .ref k38, .ref k39]), (k37, eI (ty 0) 4 tsF)] [] [0, 1] [] := ⟨rfl, rfl, rfl, rfl, by decide⟩
  refine cont_I C hP hD hS ct_1 (run_V (As := [.int (nI ta)]) (rest := [.ref h0]) C hP hD hS ct_1 (c_mtfT l D ty h0 k0 k1 k2 k3 k5 k19 k20 k21 k22 k23 k25 k26 k27 k30 k31 k33 k36 k37 k38 k39 (.int 0) (.int 0) (.int 0) (.int 0) (.int 0) (.int 0) (.int 0) (.int 0) (.int 0) (.int 0) (.int (-1)) (.int 0) (.int 0) (.int 0) (.int 0) (.int 0) (.int 0) (.int 0) (.int 0) (.int 0) ta hta) kV_PinchedBillModel_365 0 rfl rfl rfl rfl hl.1 rfl (nle rfl) d_X9_perform_3 ⟨by decide, by decide, by decide, by decide⟩) (fun r_3 w_4 H locs hw_2 hP hD hS => ?_)
  obtain ⟨rfl, rfl⟩ := hw_2
  have hP : va_P D vwCl [(h0, eO 9 [.ref k0, .ref k1, .ref k2, .ref k3, .int 0, .ref k5, .int 0, .int 0, .int 0, .int 0, .int 0, .int 0, .int 0, .int 0, .int 0, .int (-1), .int 0, .int 0, .int 0, .ref k19, .ref k20, .ref k21, .ref k22, .ref k23, .int 0, .ref k25, .ref k26, .ref k27, .int 0, .int 0, .ref k30, .ref k31, .int 0, .ref k33, .int 0, .int 0, .ref k36, .ref k37, .ref k38, .ref k39])] H := hP
  have hD : va_D A [(h0, eO 9 [.ref k0, .ref k1, .ref k2, .ref k3, .int 0, .ref k5, .int 0, .int 0, .int 0, .int 0, .int 0, .int 0, .int 0, .int 0, .int 0, .int (-1), .int 0, .int 0, .int 0, .ref k19, .ref k20, .ref k21, .ref k22, .ref k23, .int 0, .ref k25, .ref k26, .ref k27, .int 0, .int 0, .ref k30, .ref k31, .int 0, .ref k33, .int 0, .int 0, .ref k36, .ref k37, .ref k38, .ref k39])] := hD
  refine r_put (w := [(h0, eO 9 [.ref k0, .ref k1, .ref k2, .ref k3, .int 2, .ref k5, .int 0, .int 0, .int 0, .int 0, .int 0, .int 0, .int 0, .int 0, .int 0, .int (-1), .int 0, .int 0, .int 0, .ref k19, .ref k20, .ref k21, .ref k22, .ref k23, .int 0, .ref k25, .ref k26, .ref k27, .int 0, .int 0, .ref k30, .ref k31, .int 0, .ref k33, .int 0, .int 0, .ref k36, .ref k37, .ref k38, .ref k39])]) C hP hD hS 0 rfl rfl lay_X9 tok_X9 nmo_X9 4 (by decide) k_1549 rfl rfl rfl (nle rfl) rfl d_X9_perform_6 (fun H locs hP hD hS => ?_)
  refine lv_aload_n hx hb d_X9_perform_9 rfl (lv_at hl 0 rfl) ?_
  refine r_get (v := .int 2) C hP 0 rfl rfl lay_X9 4 (by decide) k_1549 rfl d_X9_perform_10 ?_
  refine b_if_leF C 18 d_X9_perform_13 (by decide) (by decide) ?_
  refine lv_iconst (v := 0) hx hb d_X9_perform_16 (by decide) ?_
  exact ret_I (w := [(h0, eO 9 [.ref k0, .ref k1, .ref k2, .ref k3, .int 2, .ref k5, .int 0, .int 0, .int 0, .int 0, .int 0, .int 0, .int 0, .int 0, .int 0, .int (-1), .int 0, .int 0, .int 0, .ref k19, .ref k20, .ref k21, .ref k22, .ref k23, .int 0, .ref k25, .ref k26, .ref k27, .int 0, .int 0, .ref k30, .ref k31, .int 0, .ref k33, .int 0, .int 0, .ref k36, .ref k37, .ref k38, .ref k39])]) C hP hD hS [0] rfl rfl ⟨(.int 0), (.int 0), (.int 0), (.int 0), (.int 0), (.int 0), (.int 0), (.int 0), (.int 0), (.int (-1)), (.int 0), (.int 0), (.int 0), (.int 0), (.int 0), (.int 0), (.int 0), (.int 0), (.int 0), rfl, rfl⟩ (by decide) (by decide) d_X9_perform_17
set_option maxHeartbeats 4000000 in
set_option maxRecDepth 100000 in
theorem m_perform1 (l : Launch) (D : va_G) (ty : Nat → ClassId) (h0 : Nat) (k0 : Nat) (k1 : Nat) (k2 : Nat) (k3 : Nat) (k5 : Nat) (k19 : Nat) (k20 : Nat) (k21 : Nat) (k22 : Nat) (k23 : Nat) (k25 : Nat) (k26 : Nat) (k27 : Nat) (k30 : Nat) (k31 : Nat) (k33 : Nat) (k36 : Nat) (k37 : Nat) (k38 : Nat) (k39 : Nat) (t : Int32) (hno : ¬ (¬ t < 0 ∧ ¬ 3 < t)) : CC l D ty ⟨"PinchedBillModel", "perform", "(I)I"⟩ prog_11_method_76_code 3 (some .int) 3 66 0 0 [.ref h0, .int t] [(h0, eO 9 [.ref k0, .ref k1, .ref k2, .ref k3, .int 0, .ref k5, .int 0, .int 0, .int 0, .int 0, .int 0, .int 0, .int 0, .int 0, .int 0, .int (-1), .int 0, .int 0, .int 0, .ref k19, .ref k20, .ref k21, .ref k22, .ref k23, .int 0, .ref k25, .ref k26, .ref k27, .int 0, .int 0, .ref k30, .ref k31, .int 0, .ref k33, .int 0, .int 0, .ref k36, .ref k37, .ref k38, .ref k39]), (k37, eI (ty 0) 4 tsF)] (QI D ty (fun (r : Int32) (w : va_W) => ∃ (w6 : Value) (w7 : Value) (w8 : Value) (w9 : Value) (w10 : Value) (w11 : Value) (w12 : Value) (w13 : Value) (w14 : Value) (w15 : Value) (w16 : Value) (w17 : Value) (w18 : Value) (w24 : Value) (w28 : Value) (w29 : Value) (w32 : Value) (w34 : Value) (w35 : Value), 0 = r ∧ w = [(h0, eO 9 [.ref k0, .ref k1, .ref k2, .ref k3, .int 1, .ref k5, w6, w7, w8, w9, w10, w11, w12, w13, w14, w15, w16, w17, w18, .ref k19, .ref k20, .ref k21, .ref k22, .ref k23, w24, .ref k25, .ref k26, .ref k27, w28, w29, .ref k30, .ref k31, w32, .ref k33, w34, w35, .ref k36, .ref k37, .ref k38, .ref k39])])) := by
  refine CC_of (by decide) ?_
  intro p e s m below meth c A C hP hD hS
  obtain ⟨⟨hx, hb, hml, hown, hts⟩, hr, hlocks, hnm, hK, hE, hA, hZ⟩ := id C
  refine startW [.ref h0, .int t] 3 (nle rfl) (lv := [(0, .ref h0), (1, .int t)]) rfl (fun ls hl => ?_)
  refine lv_aload_n hx hb d_X9_perform_0 rfl (lv_at hl 0 rfl) ?_
  refine lv_aload_n hx hb d_X9_perform_1 rfl (lv_at hl 0 rfl) ?_
  refine lv_iload_n hx hb d_X9_perform_2 rfl (lv_at hl 1 rfl) ?_
  have ct_1 : Cut [(h0, eO 9 [.ref k0, .ref k1, .ref k2, .ref k3, .int 0, .ref k5, .int 0, .int 0, .int 0, .int 0, .int 0, .int 0, .int 0, .int 0, .int 0, .int (-1), .int 0, .int 0, .int 0, .ref k19, .ref k20, .ref k21, .ref k22, .ref k23, .int 0, .ref k25, .ref k26, .ref k27, .int 0, .int 0, .ref k30, .ref k31, .int 0, .ref k33, .int 0, .int 0, .ref k36, .ref k37, .ref k38, .ref k39]), (k37, eI (ty 0) 4 tsF)] [(h0, eO 9 [.ref k0, .ref k1, .ref k2, .ref k3, .int 0, .ref k5, .int 0, .int 0, .int 0, .int 0, .int 0, .int 0, .int 0, .int 0, .int 0, .int (-1), .int 0, .int 0, .int 0, .ref k19, .ref k20, .ref k21, .ref k22, .ref k23, .int 0, .ref k25, .ref k26, .ref k27, .int 0, .int 0, .ref k30, .ref k31, .int 0, .ref k33, .int 0, .int 0, .ref k36, .ref k37, .ref k38, .ref k39]), (k37, eI (ty 0) 4 tsF)] [] [0, 1] [] := ⟨rfl, rfl, rfl, rfl, by decide⟩
  refine cont_I C hP hD hS ct_1 (run_V (As := [.int t]) (rest := [.ref h0]) C hP hD hS ct_1 (c_mtfF l D ty h0 k0 k1 k2 k3 k5 k19 k20 k21 k22 k23 k25 k26 k27 k30 k31 k33 k36 k37 k38 k39 (.int 0) (.int 0) (.int 0) (.int 0) (.int 0) (.int 0) (.int 0) (.int 0) (.int 0) (.int 0) (.int (-1)) (.int 0) (.int 0) (.int 0) (.int 0) (.int 0) (.int 0) (.int 0) (.int 0) (.int 0) t hno) kV_PinchedBillModel_365 0 rfl rfl rfl rfl hl.1 rfl (nle rfl) d_X9_perform_3 ⟨by decide, by decide, by decide, by decide⟩) (fun r_3 w_4 H locs hw_2 hP hD hS => ?_)
  obtain ⟨rfl, rfl⟩ := hw_2
  have hP : va_P D vwCl [(h0, eO 9 [.ref k0, .ref k1, .ref k2, .ref k3, .int 0, .ref k5, .int 0, .int 0, .int 0, .int 0, .int 0, .int 0, .int 0, .int 0, .int 0, .int (-1), .int 0, .int 0, .int 0, .ref k19, .ref k20, .ref k21, .ref k22, .ref k23, .int 0, .ref k25, .ref k26, .ref k27, .int 0, .int 0, .ref k30, .ref k31, .int 0, .ref k33, .int 0, .int 0, .ref k36, .ref k37, .ref k38, .ref k39])] H := hP
  have hD : va_D A [(h0, eO 9 [.ref k0, .ref k1, .ref k2, .ref k3, .int 0, .ref k5, .int 0, .int 0, .int 0, .int 0, .int 0, .int 0, .int 0, .int 0, .int 0, .int (-1), .int 0, .int 0, .int 0, .ref k19, .ref k20, .ref k21, .ref k22, .ref k23, .int 0, .ref k25, .ref k26, .ref k27, .int 0, .int 0, .ref k30, .ref k31, .int 0, .ref k33, .int 0, .int 0, .ref k36, .ref k37, .ref k38, .ref k39])] := hD
  refine r_put (w := [(h0, eO 9 [.ref k0, .ref k1, .ref k2, .ref k3, .int 1, .ref k5, .int 0, .int 0, .int 0, .int 0, .int 0, .int 0, .int 0, .int 0, .int 0, .int (-1), .int 0, .int 0, .int 0, .ref k19, .ref k20, .ref k21, .ref k22, .ref k23, .int 0, .ref k25, .ref k26, .ref k27, .int 0, .int 0, .ref k30, .ref k31, .int 0, .ref k33, .int 0, .int 0, .ref k36, .ref k37, .ref k38, .ref k39])]) C hP hD hS 0 rfl rfl lay_X9 tok_X9 nmo_X9 4 (by decide) k_1549 rfl rfl rfl (nle rfl) rfl d_X9_perform_6 (fun H locs hP hD hS => ?_)
  refine lv_aload_n hx hb d_X9_perform_9 rfl (lv_at hl 0 rfl) ?_
  refine r_get (v := .int 1) C hP 0 rfl rfl lay_X9 4 (by decide) k_1549 rfl d_X9_perform_10 ?_
  refine b_if_leF C 18 d_X9_perform_13 (by decide) (by decide) ?_
  refine lv_iconst (v := 0) hx hb d_X9_perform_16 (by decide) ?_
  exact ret_I (w := [(h0, eO 9 [.ref k0, .ref k1, .ref k2, .ref k3, .int 1, .ref k5, .int 0, .int 0, .int 0, .int 0, .int 0, .int 0, .int 0, .int 0, .int 0, .int (-1), .int 0, .int 0, .int 0, .ref k19, .ref k20, .ref k21, .ref k22, .ref k23, .int 0, .ref k25, .ref k26, .ref k27, .int 0, .int 0, .ref k30, .ref k31, .int 0, .ref k33, .int 0, .int 0, .ref k36, .ref k37, .ref k38, .ref k39])]) C hP hD hS [0] rfl rfl ⟨(.int 0), (.int 0), (.int 0), (.int 0), (.int 0), (.int 0), (.int 0), (.int 0), (.int 0), (.int (-1)), (.int 0), (.int 0), (.int 0), (.int 0), (.int 0), (.int 0), (.int 0), (.int 0), (.int 0), rfl, rfl⟩ (by decide) (by decide) d_X9_perform_17
set_option maxHeartbeats 4000000 in
set_option maxRecDepth 100000 in
theorem m_seen2 (l : Launch) (D : va_G) (ty : Nat → ClassId) (h0 : Nat) (k0 : Nat) (k1 : Nat) (k2 : Nat) (k3 : Nat) (k5 : Nat) (k19 : Nat) (k20 : Nat) (k21 : Nat) (k22 : Nat) (k23 : Nat) (k25 : Nat) (k26 : Nat) (k27 : Nat) (k30 : Nat) (k31 : Nat) (k33 : Nat) (k36 : Nat) (k37 : Nat) (k38 : Nat) (k39 : Nat) (ta : Nat) (hta : ta < 4) : CC l D ty ⟨"PinchedBillModel", "seen", "(I)I"⟩ prog_11_method_117_code 2 (some .int) 4 90 0 0 [.ref h0, .int (nI ta)] [(h0, eO 9 [.ref k0, .ref k1, .ref k2, .ref k3, .int 0, .ref k5, .int 0, .int 0, .int 0, .int 0, .int 0, .int 0, .int 0, .int 0, .int 0, .int (-1), .int 0, .int 0, .int 0, .ref k19, .ref k20, .ref k21, .ref k22, .ref k23, .int 0, .ref k25, .ref k26, .ref k27, .int 0, .int 0, .ref k30, .ref k31, .int 0, .ref k33, .int 0, .int 0, .ref k36, .ref k37, .ref k38, .ref k39]), (k37, eI (ty 0) 4 tsF)] (QI D ty (fun (r : Int32) (w : va_W) => ∃ (w6 : Value) (w7 : Value) (w8 : Value) (w9 : Value) (w10 : Value) (w11 : Value) (w12 : Value) (w13 : Value) (w14 : Value) (w15 : Value) (w16 : Value) (w17 : Value) (w18 : Value) (w24 : Value) (w28 : Value) (w29 : Value) (w32 : Value) (w34 : Value) (w35 : Value), 0 = r ∧ w = [(h0, eO 9 [.ref k0, .ref k1, .ref k2, .ref k3, .int 2, .ref k5, w6, w7, w8, w9, w10, w11, w12, w13, w14, w15, w16, w17, w18, .ref k19, .ref k20, .ref k21, .ref k22, .ref k23, w24, .ref k25, .ref k26, .ref k27, w28, w29, .ref k30, .ref k31, w32, .ref k33, w34, w35, .ref k36, .ref k37, .ref k38, .ref k39])])) := by
  refine CC_of (by decide) ?_
  intro p e s m below meth c A C hP hD hS
  obtain ⟨⟨hx, hb, hml, hown, hts⟩, hr, hlocks, hnm, hK, hE, hA, hZ⟩ := id C
  refine startW [.ref h0, .int (nI ta)] 2 (nle rfl) (lv := [(0, .ref h0), (1, .int (nI ta))]) rfl (fun ls hl => ?_)
  refine lv_aload_n hx hb d_X9_seen_0 rfl (lv_at hl 0 rfl) ?_
  refine lv_aload_n hx hb d_X9_seen_1 rfl (lv_at hl 0 rfl) ?_
  refine lv_iload_n hx hb d_X9_seen_2 rfl (lv_at hl 1 rfl) ?_
  have ct_1 : Cut [(h0, eO 9 [.ref k0, .ref k1, .ref k2, .ref k3, .int 0, .ref k5, .int 0, .int 0, .int 0, .int 0, .int 0, .int 0, .int 0, .int 0, .int 0, .int (-1), .int 0, .int 0, .int 0, .ref k19, .ref k20, .ref k21, .ref k22, .ref k23, .int 0, .ref k25, .ref k26, .ref k27, .int 0, .int 0, .ref k30, .ref k31, .int 0, .ref k33, .int 0, .int 0, .ref k36, .ref k37, .ref k38, .ref k39]), (k37, eI (ty 0) 4 tsF)] [(h0, eO 9 [.ref k0, .ref k1, .ref k2, .ref k3, .int 0, .ref k5, .int 0, .int 0, .int 0, .int 0, .int 0, .int 0, .int 0, .int 0, .int 0, .int (-1), .int 0, .int 0, .int 0, .ref k19, .ref k20, .ref k21, .ref k22, .ref k23, .int 0, .ref k25, .ref k26, .ref k27, .int 0, .int 0, .ref k30, .ref k31, .int 0, .ref k33, .int 0, .int 0, .ref k36, .ref k37, .ref k38, .ref k39]), (k37, eI (ty 0) 4 tsF)] [] [0, 1] [] := ⟨rfl, rfl, rfl, rfl, by decide⟩
  refine cont_I C hP hD hS ct_1 (run_V (As := [.int (nI ta)]) (rest := [.ref h0]) C hP hD hS ct_1 (c_msfT l D ty h0 k0 k1 k2 k3 k5 k19 k20 k21 k22 k23 k25 k26 k27 k30 k31 k33 k36 k37 k38 k39 (.int 0) (.int 0) (.int 0) (.int 0) (.int 0) (.int 0) (.int 0) (.int 0) (.int 0) (.int 0) (.int (-1)) (.int 0) (.int 0) (.int 0) (.int 0) (.int 0) (.int 0) (.int 0) (.int 0) (.int 0) ta hta) kV_PinchedBillModel_469 0 rfl rfl rfl rfl hl.1 rfl (nle rfl) d_X9_seen_3 ⟨by decide, by decide, by decide, by decide⟩) (fun r_3 w_4 H locs hw_2 hP hD hS => ?_)
  obtain ⟨rfl, rfl⟩ := hw_2
  have hP : va_P D vwCl [(h0, eO 9 [.ref k0, .ref k1, .ref k2, .ref k3, .int 0, .ref k5, .int 0, .int 0, .int 0, .int 0, .int 0, .int 0, .int 0, .int 0, .int 0, .int (-1), .int 0, .int 0, .int 0, .ref k19, .ref k20, .ref k21, .ref k22, .ref k23, .int 0, .ref k25, .ref k26, .ref k27, .int 0, .int 0, .ref k30, .ref k31, .int 0, .ref k33, .int 0, .int 0, .ref k36, .ref k37, .ref k38, .ref k39])] H := hP
  have hD : va_D A [(h0, eO 9 [.ref k0, .ref k1, .ref k2, .ref k3, .int 0, .ref k5, .int 0, .int 0, .int 0, .int 0, .int 0, .int 0, .int 0, .int 0, .int 0, .int (-1), .int 0, .int 0, .int 0, .ref k19, .ref k20, .ref k21, .ref k22, .ref k23, .int 0, .ref k25, .ref k26, .ref k27, .int 0, .int 0, .ref k30, .ref k31, .int 0, .ref k33, .int 0, .int 0, .ref k36, .ref k37, .ref k38, .ref k39])] := hD
  refine r_put (w := [(h0, eO 9 [.ref k0, .ref k1, .ref k2, .ref k3, .int 2, .ref k5, .int 0, .int 0, .int 0, .int 0, .int 0, .int 0, .int 0, .int 0, .int 0, .int (-1), .int 0, .int 0, .int 0, .ref k19, .ref k20, .ref k21, .ref k22, .ref k23, .int 0, .ref k25, .ref k26, .ref k27, .int 0, .int 0, .ref k30, .ref k31, .int 0, .ref k33, .int 0, .int 0, .ref k36, .ref k37, .ref k38, .ref k39])]) C hP hD hS 0 rfl rfl lay_X9 tok_X9 nmo_X9 4 (by decide) k_1549 rfl rfl rfl (nle rfl) rfl d_X9_seen_6 (fun H locs hP hD hS => ?_)
  refine lv_aload_n hx hb d_X9_seen_9 rfl (lv_at hl 0 rfl) ?_
  refine r_get (v := .int 2) C hP 0 rfl rfl lay_X9 4 (by decide) k_1549 rfl d_X9_seen_10 ?_
  refine b_if_leF C 18 d_X9_seen_13 (by decide) (by decide) ?_
  refine lv_iconst (v := 0) hx hb d_X9_seen_16 (by decide) ?_
  exact ret_I (w := [(h0, eO 9 [.ref k0, .ref k1, .ref k2, .ref k3, .int 2, .ref k5, .int 0, .int 0, .int 0, .int 0, .int 0, .int 0, .int 0, .int 0, .int 0, .int (-1), .int 0, .int 0, .int 0, .ref k19, .ref k20, .ref k21, .ref k22, .ref k23, .int 0, .ref k25, .ref k26, .ref k27, .int 0, .int 0, .ref k30, .ref k31, .int 0, .ref k33, .int 0, .int 0, .ref k36, .ref k37, .ref k38, .ref k39])]) C hP hD hS [0] rfl rfl ⟨(.int 0), (.int 0), (.int 0), (.int 0), (.int 0), (.int 0), (.int 0), (.int 0), (.int 0), (.int (-1)), (.int 0), (.int 0), (.int 0), (.int 0), (.int 0), (.int 0), (.int 0), (.int 0), (.int 0), rfl, rfl⟩ (by decide) (by decide) d_X9_seen_17
set_option maxHeartbeats 4000000 in
set_option maxRecDepth 100000 in
theorem m_seen1 (l : Launch) (D : va_G) (ty : Nat → ClassId) (h0 : Nat) (k0 : Nat) (k1 : Nat) (k2 : Nat) (k3 : Nat) (k5 : Nat) (k19 : Nat) (k20 : Nat) (k21 : Nat) (k22 : Nat) (k23 : Nat) (k25 : Nat) (k26 : Nat) (k27 : Nat) (k30 : Nat) (k31 : Nat) (k33 : Nat) (k36 : Nat) (k37 : Nat) (k38 : Nat) (k39 : Nat) (t : Int32) (hno : ¬ (¬ t < 0 ∧ ¬ 3 < t)) : CC l D ty ⟨"PinchedBillModel", "seen", "(I)I"⟩ prog_11_method_117_code 2 (some .int) 4 90 0 0 [.ref h0, .int t] [(h0, eO 9 [.ref k0, .ref k1, .ref k2, .ref k3, .int 0, .ref k5, .int 0, .int 0, .int 0, .int 0, .int 0, .int 0, .int 0, .int 0, .int 0, .int (-1), .int 0, .int 0, .int 0, .ref k19, .ref k20, .ref k21, .ref k22, .ref k23, .int 0, .ref k25, .ref k26, .ref k27, .int 0, .int 0, .ref k30, .ref k31, .int 0, .ref k33, .int 0, .int 0, .ref k36, .ref k37, .ref k38, .ref k39]), (k37, eI (ty 0) 4 tsF)] (QI D ty (fun (r : Int32) (w : va_W) => ∃ (w6 : Value) (w7 : Value) (w8 : Value) (w9 : Value) (w10 : Value) (w11 : Value) (w12 : Value) (w13 : Value) (w14 : Value) (w15 : Value) (w16 : Value) (w17 : Value) (w18 : Value) (w24 : Value) (w28 : Value) (w29 : Value) (w32 : Value) (w34 : Value) (w35 : Value), 0 = r ∧ w = [(h0, eO 9 [.ref k0, .ref k1, .ref k2, .ref k3, .int 1, .ref k5, w6, w7, w8, w9, w10, w11, w12, w13, w14, w15, w16, w17, w18, .ref k19, .ref k20, .ref k21, .ref k22, .ref k23, w24, .ref k25, .ref k26, .ref k27, w28, w29, .ref k30, .ref k31, w32, .ref k33, w34, w35, .ref k36, .ref k37, .ref k38, .ref k39])])) := by
  refine CC_of (by decide) ?_
  intro p e s m below meth c A C hP hD hS
  obtain ⟨⟨hx, hb, hml, hown, hts⟩, hr, hlocks, hnm, hK, hE, hA, hZ⟩ := id C
  refine startW [.ref h0, .int t] 2 (nle rfl) (lv := [(0, .ref h0), (1, .int t)]) rfl (fun ls hl => ?_)
  refine lv_aload_n hx hb d_X9_seen_0 rfl (lv_at hl 0 rfl) ?_
  refine lv_aload_n hx hb d_X9_seen_1 rfl (lv_at hl 0 rfl) ?_
  refine lv_iload_n hx hb d_X9_seen_2 rfl (lv_at hl 1 rfl) ?_
  have ct_1 : Cut [(h0, eO 9 [.ref k0, .ref k1, .ref k2, .ref k3, .int 0, .ref k5, .int 0, .int 0, .int 0, .int 0, .int 0, .int 0, .int 0, .int 0, .int 0, .int (-1), .int 0, .int 0, .int 0, .ref k19, .ref k20, .ref k21, .ref k22, .ref k23, .int 0, .ref k25, .ref k26, .ref k27, .int 0, .int 0, .ref k30, .ref k31, .int 0, .ref k33, .int 0, .int 0, .ref k36, .ref k37, .ref k38, .ref k39]), (k37, eI (ty 0) 4 tsF)] [(h0, eO 9 [.ref k0, .ref k1, .ref k2, .ref k3, .int 0, .ref k5, .int 0, .int 0, .int 0, .int 0, .int 0, .int 0, .int 0, .int 0, .int 0, .int (-1), .int 0, .int 0, .int 0, .ref k19, .ref k20, .ref k21, .ref k22, .ref k23, .int 0, .ref k25, .ref k26, .ref k27, .int 0, .int 0, .ref k30, .ref k31, .int 0, .ref k33, .int 0, .int 0, .ref k36, .ref k37, .ref k38, .ref k39]), (k37, eI (ty 0) 4 tsF)] [] [0, 1] [] := ⟨rfl, rfl, rfl, rfl, by decide⟩
  refine cont_I C hP hD hS ct_1 (run_V (As := [.int t]) (rest := [.ref h0]) C hP hD hS ct_1 (c_msfF l D ty h0 k0 k1 k2 k3 k5 k19 k20 k21 k22 k23 k25 k26 k27 k30 k31 k33 k36 k37 k38 k39 (.int 0) (.int 0) (.int 0) (.int 0) (.int 0) (.int 0) (.int 0) (.int 0) (.int 0) (.int 0) (.int (-1)) (.int 0) (.int 0) (.int 0) (.int 0) (.int 0) (.int 0) (.int 0) (.int 0) (.int 0) t hno) kV_PinchedBillModel_469 0 rfl rfl rfl rfl hl.1 rfl (nle rfl) d_X9_seen_3 ⟨by decide, by decide, by decide, by decide⟩) (fun r_3 w_4 H locs hw_2 hP hD hS => ?_)
  obtain ⟨rfl, rfl⟩ := hw_2
  have hP : va_P D vwCl [(h0, eO 9 [.ref k0, .ref k1, .ref k2, .ref k3, .int 0, .ref k5, .int 0, .int 0, .int 0, .int 0, .int 0, .int 0, .int 0, .int 0, .int 0, .int (-1), .int 0, .int 0, .int 0, .ref k19, .ref k20, .ref k21, .ref k22, .ref k23, .int 0, .ref k25, .ref k26, .ref k27, .int 0, .int 0, .ref k30, .ref k31, .int 0, .ref k33, .int 0, .int 0, .ref k36, .ref k37, .ref k38, .ref k39])] H := hP
  have hD : va_D A [(h0, eO 9 [.ref k0, .ref k1, .ref k2, .ref k3, .int 0, .ref k5, .int 0, .int 0, .int 0, .int 0, .int 0, .int 0, .int 0, .int 0, .int 0, .int (-1), .int 0, .int 0, .int 0, .ref k19, .ref k20, .ref k21, .ref k22, .ref k23, .int 0, .ref k25, .ref k26, .ref k27, .int 0, .int 0, .ref k30, .ref k31, .int 0, .ref k33, .int 0, .int 0, .ref k36, .ref k37, .ref k38, .ref k39])] := hD
  refine r_put (w := [(h0, eO 9 [.ref k0, .ref k1, .ref k2, .ref k3, .int 1, .ref k5, .int 0, .int 0, .int 0, .int 0, .int 0, .int 0, .int 0, .int 0, .int 0, .int (-1), .int 0, .int 0, .int 0, .ref k19, .ref k20, .ref k21, .ref k22, .ref k23, .int 0, .ref k25, .ref k26, .ref k27, .int 0, .int 0, .ref k30, .ref k31, .int 0, .ref k33, .int 0, .int 0, .ref k36, .ref k37, .ref k38, .ref k39])]) C hP hD hS 0 rfl rfl lay_X9 tok_X9 nmo_X9 4 (by decide) k_1549 rfl rfl rfl (nle rfl) rfl d_X9_seen_6 (fun H locs hP hD hS => ?_)
  refine lv_aload_n hx hb d_X9_seen_9 rfl (lv_at hl 0 rfl) ?_
  refine r_get (v := .int 1) C hP 0 rfl rfl lay_X9 4 (by decide) k_1549 rfl d_X9_seen_10 ?_
  refine b_if_leF C 18 d_X9_seen_13 (by decide) (by decide) ?_
  refine lv_iconst (v := 0) hx hb d_X9_seen_16 (by decide) ?_
  exact ret_I (w := [(h0, eO 9 [.ref k0, .ref k1, .ref k2, .ref k3, .int 1, .ref k5, .int 0, .int 0, .int 0, .int 0, .int 0, .int 0, .int 0, .int 0, .int 0, .int (-1), .int 0, .int 0, .int 0, .ref k19, .ref k20, .ref k21, .ref k22, .ref k23, .int 0, .ref k25, .ref k26, .ref k27, .int 0, .int 0, .ref k30, .ref k31, .int 0, .ref k33, .int 0, .int 0, .ref k36, .ref k37, .ref k38, .ref k39])]) C hP hD hS [0] rfl rfl ⟨(.int 0), (.int 0), (.int 0), (.int 0), (.int 0), (.int 0), (.int 0), (.int 0), (.int 0), (.int (-1)), (.int 0), (.int 0), (.int 0), (.int 0), (.int 0), (.int 0), (.int 0), (.int 0), (.int 0), rfl, rfl⟩ (by decide) (by decide) d_X9_seen_17
set_option maxHeartbeats 4000000 in
set_option maxRecDepth 100000 in
theorem m_seenAt2 (l : Launch) (D : va_G) (ty : Nat → ClassId) (h0 : Nat) (k0 : Nat) (k1 : Nat) (k2 : Nat) (k3 : Nat) (k5 : Nat) (k19 : Nat) (k20 : Nat) (k21 : Nat) (k22 : Nat) (k23 : Nat) (k25 : Nat) (k26 : Nat) (k27 : Nat) (k30 : Nat) (k31 : Nat) (k33 : Nat) (k36 : Nat) (k37 : Nat) (k38 : Nat) (k39 : Nat) (ta : Nat) (kk : Int32) (hta : ta < 4) : CC l D ty ⟨"PinchedBillModel", "seenAt", "(II)I"⟩ prog_11_method_118_code 3 (some .int) 4 90 0 0 [.ref h0, .int (nI ta), .int kk] [(h0, eO 9 [.ref k0, .ref k1, .ref k2, .ref k3, .int 0, .ref k5, .int 0, .int 0, .int 0, .int 0, .int 0, .int 0, .int 0, .int 0, .int 0, .int (-1), .int 0, .int 0, .int 0, .ref k19, .ref k20, .ref k21, .ref k22, .ref k23, .int 0, .ref k25, .ref k26, .ref k27, .int 0, .int 0, .ref k30, .ref k31, .int 0, .ref k33, .int 0, .int 0, .ref k36, .ref k37, .ref k38, .ref k39]), (k37, eI (ty 0) 4 tsF)] (QI D ty (fun (r : Int32) (w : va_W) => ∃ (w6 : Value) (w7 : Value) (w8 : Value) (w9 : Value) (w10 : Value) (w11 : Value) (w12 : Value) (w13 : Value) (w14 : Value) (w15 : Value) (w16 : Value) (w17 : Value) (w18 : Value) (w24 : Value) (w28 : Value) (w29 : Value) (w32 : Value) (w34 : Value) (w35 : Value), 0 = r ∧ w = [(h0, eO 9 [.ref k0, .ref k1, .ref k2, .ref k3, .int 2, .ref k5, w6, w7, w8, w9, w10, w11, w12, w13, w14, w15, w16, w17, w18, .ref k19, .ref k20, .ref k21, .ref k22, .ref k23, w24, .ref k25, .ref k26, .ref k27, w28, w29, .ref k30, .ref k31, w32, .ref k33, w34, w35, .ref k36, .ref k37, .ref k38, .ref k39])])) := by
  refine CC_of (by decide) ?_
  intro p e s m below meth c A C hP hD hS
  obtain ⟨⟨hx, hb, hml, hown, hts⟩, hr, hlocks, hnm, hK, hE, hA, hZ⟩ := id C
  refine startW [.ref h0, .int (nI ta), .int kk] 3 (nle rfl) (lv := [(0, .ref h0), (1, .int (nI ta)), (2, .int kk)]) rfl (fun ls hl => ?_)
  refine lv_aload_n hx hb d_X9_seenAt_0 rfl (lv_at hl 0 rfl) ?_
  refine lv_aload_n hx hb d_X9_seenAt_1 rfl (lv_at hl 0 rfl) ?_
  refine lv_iload_n hx hb d_X9_seenAt_2 rfl (lv_at hl 1 rfl) ?_
  have ct_1 : Cut [(h0, eO 9 [.ref k0, .ref k1, .ref k2, .ref k3, .int 0, .ref k5, .int 0, .int 0, .int 0, .int 0, .int 0, .int 0, .int 0, .int 0, .int 0, .int (-1), .int 0, .int 0, .int 0, .ref k19, .ref k20, .ref k21, .ref k22, .ref k23, .int 0, .ref k25, .ref k26, .ref k27, .int 0, .int 0, .ref k30, .ref k31, .int 0, .ref k33, .int 0, .int 0, .ref k36, .ref k37, .ref k38, .ref k39]), (k37, eI (ty 0) 4 tsF)] [(h0, eO 9 [.ref k0, .ref k1, .ref k2, .ref k3, .int 0, .ref k5, .int 0, .int 0, .int 0, .int 0, .int 0, .int 0, .int 0, .int 0, .int 0, .int (-1), .int 0, .int 0, .int 0, .ref k19, .ref k20, .ref k21, .ref k22, .ref k23, .int 0, .ref k25, .ref k26, .ref k27, .int 0, .int 0, .ref k30, .ref k31, .int 0, .ref k33, .int 0, .int 0, .ref k36, .ref k37, .ref k38, .ref k39]), (k37, eI (ty 0) 4 tsF)] [] [0, 1] [] := ⟨rfl, rfl, rfl, rfl, by decide⟩
  refine cont_I C hP hD hS ct_1 (run_V (As := [.int (nI ta)]) (rest := [.ref h0]) C hP hD hS ct_1 (c_msfT l D ty h0 k0 k1 k2 k3 k5 k19 k20 k21 k22 k23 k25 k26 k27 k30 k31 k33 k36 k37 k38 k39 (.int 0) (.int 0) (.int 0) (.int 0) (.int 0) (.int 0) (.int 0) (.int 0) (.int 0) (.int 0) (.int (-1)) (.int 0) (.int 0) (.int 0) (.int 0) (.int 0) (.int 0) (.int 0) (.int 0) (.int 0) ta hta) kV_PinchedBillModel_469 0 rfl rfl rfl rfl hl.1 rfl (nle rfl) d_X9_seenAt_3 ⟨by decide, by decide, by decide, by decide⟩) (fun r_3 w_4 H locs hw_2 hP hD hS => ?_)
  obtain ⟨rfl, rfl⟩ := hw_2
  have hP : va_P D vwCl [(h0, eO 9 [.ref k0, .ref k1, .ref k2, .ref k3, .int 0, .ref k5, .int 0, .int 0, .int 0, .int 0, .int 0, .int 0, .int 0, .int 0, .int 0, .int (-1), .int 0, .int 0, .int 0, .ref k19, .ref k20, .ref k21, .ref k22, .ref k23, .int 0, .ref k25, .ref k26, .ref k27, .int 0, .int 0, .ref k30, .ref k31, .int 0, .ref k33, .int 0, .int 0, .ref k36, .ref k37, .ref k38, .ref k39])] H := hP
  have hD : va_D A [(h0, eO 9 [.ref k0, .ref k1, .ref k2, .ref k3, .int 0, .ref k5, .int 0, .int 0, .int 0, .int 0, .int 0, .int 0, .int 0, .int 0, .int 0, .int (-1), .int 0, .int 0, .int 0, .ref k19, .ref k20, .ref k21, .ref k22, .ref k23, .int 0, .ref k25, .ref k26, .ref k27, .int 0, .int 0, .ref k30, .ref k31, .int 0, .ref k33, .int 0, .int 0, .ref k36, .ref k37, .ref k38, .ref k39])] := hD
  refine r_put (w := [(h0, eO 9 [.ref k0, .ref k1, .ref k2, .ref k3, .int 2, .ref k5, .int 0, .int 0, .int 0, .int 0, .int 0, .int 0, .int 0, .int 0, .int 0, .int (-1), .int 0, .int 0, .int 0, .ref k19, .ref k20, .ref k21, .ref k22, .ref k23, .int 0, .ref k25, .ref k26, .ref k27, .int 0, .int 0, .ref k30, .ref k31, .int 0, .ref k33, .int 0, .int 0, .ref k36, .ref k37, .ref k38, .ref k39])]) C hP hD hS 0 rfl rfl lay_X9 tok_X9 nmo_X9 4 (by decide) k_1549 rfl rfl rfl (nle rfl) rfl d_X9_seenAt_6 (fun H locs hP hD hS => ?_)
  refine lv_aload_n hx hb d_X9_seenAt_9 rfl (lv_at hl 0 rfl) ?_
  refine r_get (v := .int 2) C hP 0 rfl rfl lay_X9 4 (by decide) k_1549 rfl d_X9_seenAt_10 ?_
  refine b_if_neT C 25 d_X9_seenAt_13 (by decide) (by decide) ?_
  refine lv_aload_n hx hb d_X9_seenAt_25 rfl (lv_at hl 0 rfl) ?_
  refine r_get (v := .int 2) C hP 0 rfl rfl lay_X9 4 (by decide) k_1549 rfl d_X9_seenAt_26 ?_
  refine b_if_leF C 34 d_X9_seenAt_29 (by decide) (by decide) ?_
  refine lv_iconst (v := 0) hx hb d_X9_seenAt_32 (by decide) ?_
  exact ret_I (w := [(h0, eO 9 [.ref k0, .ref k1, .ref k2, .ref k3, .int 2, .ref k5, .int 0, .int 0, .int 0, .int 0, .int 0, .int 0, .int 0, .int 0, .int 0, .int (-1), .int 0, .int 0, .int 0, .ref k19, .ref k20, .ref k21, .ref k22, .ref k23, .int 0, .ref k25, .ref k26, .ref k27, .int 0, .int 0, .ref k30, .ref k31, .int 0, .ref k33, .int 0, .int 0, .ref k36, .ref k37, .ref k38, .ref k39])]) C hP hD hS [0] rfl rfl ⟨(.int 0), (.int 0), (.int 0), (.int 0), (.int 0), (.int 0), (.int 0), (.int 0), (.int 0), (.int (-1)), (.int 0), (.int 0), (.int 0), (.int 0), (.int 0), (.int 0), (.int 0), (.int 0), (.int 0), rfl, rfl⟩ (by decide) (by decide) d_X9_seenAt_33
set_option maxHeartbeats 4000000 in
set_option maxRecDepth 100000 in
theorem m_seenAt1 (l : Launch) (D : va_G) (ty : Nat → ClassId) (h0 : Nat) (k0 : Nat) (k1 : Nat) (k2 : Nat) (k3 : Nat) (k5 : Nat) (k19 : Nat) (k20 : Nat) (k21 : Nat) (k22 : Nat) (k23 : Nat) (k25 : Nat) (k26 : Nat) (k27 : Nat) (k30 : Nat) (k31 : Nat) (k33 : Nat) (k36 : Nat) (k37 : Nat) (k38 : Nat) (k39 : Nat) (t : Int32) (kk : Int32) (hno : ¬ (¬ t < 0 ∧ ¬ 3 < t)) : CC l D ty ⟨"PinchedBillModel", "seenAt", "(II)I"⟩ prog_11_method_118_code 3 (some .int) 4 90 0 0 [.ref h0, .int t, .int kk] [(h0, eO 9 [.ref k0, .ref k1, .ref k2, .ref k3, .int 0, .ref k5, .int 0, .int 0, .int 0, .int 0, .int 0, .int 0, .int 0, .int 0, .int 0, .int (-1), .int 0, .int 0, .int 0, .ref k19, .ref k20, .ref k21, .ref k22, .ref k23, .int 0, .ref k25, .ref k26, .ref k27, .int 0, .int 0, .ref k30, .ref k31, .int 0, .ref k33, .int 0, .int 0, .ref k36, .ref k37, .ref k38, .ref k39]), (k37, eI (ty 0) 4 tsF)] (QI D ty (fun (r : Int32) (w : va_W) => ∃ (w6 : Value) (w7 : Value) (w8 : Value) (w9 : Value) (w10 : Value) (w11 : Value) (w12 : Value) (w13 : Value) (w14 : Value) (w15 : Value) (w16 : Value) (w17 : Value) (w18 : Value) (w24 : Value) (w28 : Value) (w29 : Value) (w32 : Value) (w34 : Value) (w35 : Value), 0 = r ∧ w = [(h0, eO 9 [.ref k0, .ref k1, .ref k2, .ref k3, .int 1, .ref k5, w6, w7, w8, w9, w10, w11, w12, w13, w14, w15, w16, w17, w18, .ref k19, .ref k20, .ref k21, .ref k22, .ref k23, w24, .ref k25, .ref k26, .ref k27, w28, w29, .ref k30, .ref k31, w32, .ref k33, w34, w35, .ref k36, .ref k37, .ref k38, .ref k39])])) := by
  refine CC_of (by decide) ?_
  intro p e s m below meth c A C hP hD hS
  obtain ⟨⟨hx, hb, hml, hown, hts⟩, hr, hlocks, hnm, hK, hE, hA, hZ⟩ := id C
  refine startW [.ref h0, .int t, .int kk] 3 (nle rfl) (lv := [(0, .ref h0), (1, .int t), (2, .int kk)]) rfl (fun ls hl => ?_)
  refine lv_aload_n hx hb d_X9_seenAt_0 rfl (lv_at hl 0 rfl) ?_
  refine lv_aload_n hx hb d_X9_seenAt_1 rfl (lv_at hl 0 rfl) ?_
  refine lv_iload_n hx hb d_X9_seenAt_2 rfl (lv_at hl 1 rfl) ?_
  have ct_1 : Cut [(h0, eO 9 [.ref k0, .ref k1, .ref k2, .ref k3, .int 0, .ref k5, .int 0, .int 0, .int 0, .int 0, .int 0, .int 0, .int 0, .int 0, .int 0, .int (-1), .int 0, .int 0, .int 0, .ref k19, .ref k20, .ref k21, .ref k22, .ref k23, .int 0, .ref k25, .ref k26, .ref k27, .int 0, .int 0, .ref k30, .ref k31, .int 0, .ref k33, .int 0, .int 0, .ref k36, .ref k37, .ref k38, .ref k39]), (k37, eI (ty 0) 4 tsF)] [(h0, eO 9 [.ref k0, .ref k1, .ref k2, .ref k3, .int 0, .ref k5, .int 0, .int 0, .int 0, .int 0, .int 0, .int 0, .int 0, .int 0, .int 0, .int (-1), .int 0, .int 0, .int 0, .ref k19, .ref k20, .ref k21, .ref k22, .ref k23, .int 0, .ref k25, .ref k26, .ref k27, .int 0, .int 0, .ref k30, .ref k31, .int 0, .ref k33, .int 0, .int 0, .ref k36, .ref k37, .ref k38, .ref k39]), (k37, eI (ty 0) 4 tsF)] [] [0, 1] [] := ⟨rfl, rfl, rfl, rfl, by decide⟩
  refine cont_I C hP hD hS ct_1 (run_V (As := [.int t]) (rest := [.ref h0]) C hP hD hS ct_1 (c_msfF l D ty h0 k0 k1 k2 k3 k5 k19 k20 k21 k22 k23 k25 k26 k27 k30 k31 k33 k36 k37 k38 k39 (.int 0) (.int 0) (.int 0) (.int 0) (.int 0) (.int 0) (.int 0) (.int 0) (.int 0) (.int 0) (.int (-1)) (.int 0) (.int 0) (.int 0) (.int 0) (.int 0) (.int 0) (.int 0) (.int 0) (.int 0) t hno) kV_PinchedBillModel_469 0 rfl rfl rfl rfl hl.1 rfl (nle rfl) d_X9_seenAt_3 ⟨by decide, by decide, by decide, by decide⟩) (fun r_3 w_4 H locs hw_2 hP hD hS => ?_)
  obtain ⟨rfl, rfl⟩ := hw_2
  have hP : va_P D vwCl [(h0, eO 9 [.ref k0, .ref k1, .ref k2, .ref k3, .int 0, .ref k5, .int 0, .int 0, .int 0, .int 0, .int 0, .int 0, .int 0, .int 0, .int 0, .int (-1), .int 0, .int 0, .int 0, .ref k19, .ref k20, .ref k21, .ref k22, .ref k23, .int 0, .ref k25, .ref k26, .ref k27, .int 0, .int 0, .ref k30, .ref k31, .int 0, .ref k33, .int 0, .int 0, .ref k36, .ref k37, .ref k38, .ref k39])] H := hP
  have hD : va_D A [(h0, eO 9 [.ref k0, .ref k1, .ref k2, .ref k3, .int 0, .ref k5, .int 0, .int 0, .int 0, .int 0, .int 0, .int 0, .int 0, .int 0, .int 0, .int (-1), .int 0, .int 0, .int 0, .ref k19, .ref k20, .ref k21, .ref k22, .ref k23, .int 0, .ref k25, .ref k26, .ref k27, .int 0, .int 0, .ref k30, .ref k31, .int 0, .ref k33, .int 0, .int 0, .ref k36, .ref k37, .ref k38, .ref k39])] := hD
  refine r_put (w := [(h0, eO 9 [.ref k0, .ref k1, .ref k2, .ref k3, .int 1, .ref k5, .int 0, .int 0, .int 0, .int 0, .int 0, .int 0, .int 0, .int 0, .int 0, .int (-1), .int 0, .int 0, .int 0, .ref k19, .ref k20, .ref k21, .ref k22, .ref k23, .int 0, .ref k25, .ref k26, .ref k27, .int 0, .int 0, .ref k30, .ref k31, .int 0, .ref k33, .int 0, .int 0, .ref k36, .ref k37, .ref k38, .ref k39])]) C hP hD hS 0 rfl rfl lay_X9 tok_X9 nmo_X9 4 (by decide) k_1549 rfl rfl rfl (nle rfl) rfl d_X9_seenAt_6 (fun H locs hP hD hS => ?_)
  refine lv_aload_n hx hb d_X9_seenAt_9 rfl (lv_at hl 0 rfl) ?_
  refine r_get (v := .int 1) C hP 0 rfl rfl lay_X9 4 (by decide) k_1549 rfl d_X9_seenAt_10 ?_
  refine b_if_neT C 25 d_X9_seenAt_13 (by decide) (by decide) ?_
  refine lv_aload_n hx hb d_X9_seenAt_25 rfl (lv_at hl 0 rfl) ?_
  refine r_get (v := .int 1) C hP 0 rfl rfl lay_X9 4 (by decide) k_1549 rfl d_X9_seenAt_26 ?_
  refine b_if_leF C 34 d_X9_seenAt_29 (by decide) (by decide) ?_
  refine lv_iconst (v := 0) hx hb d_X9_seenAt_32 (by decide) ?_
  exact ret_I (w := [(h0, eO 9 [.ref k0, .ref k1, .ref k2, .ref k3, .int 1, .ref k5, .int 0, .int 0, .int 0, .int 0, .int 0, .int 0, .int 0, .int 0, .int 0, .int (-1), .int 0, .int 0, .int 0, .ref k19, .ref k20, .ref k21, .ref k22, .ref k23, .int 0, .ref k25, .ref k26, .ref k27, .int 0, .int 0, .ref k30, .ref k31, .int 0, .ref k33, .int 0, .int 0, .ref k36, .ref k37, .ref k38, .ref k39])]) C hP hD hS [0] rfl rfl ⟨(.int 0), (.int 0), (.int 0), (.int 0), (.int 0), (.int 0), (.int 0), (.int 0), (.int 0), (.int (-1)), (.int 0), (.int 0), (.int 0), (.int 0), (.int 0), (.int 0), (.int 0), (.int 0), (.int 0), rfl, rfl⟩ (by decide) (by decide) d_X9_seenAt_33
set_option maxHeartbeats 4000000 in
set_option maxRecDepth 100000 in
theorem m_ask2 (l : Launch) (D : va_G) (ty : Nat → ClassId) (h0 : Nat) (k0 : Nat) (k1 : Nat) (k2 : Nat) (k3 : Nat) (k5 : Nat) (k19 : Nat) (k20 : Nat) (k21 : Nat) (k22 : Nat) (k23 : Nat) (k25 : Nat) (k26 : Nat) (k27 : Nat) (k30 : Nat) (k31 : Nat) (k33 : Nat) (k36 : Nat) (k37 : Nat) (k38 : Nat) (k39 : Nat) (ta : Nat) (hta : ta < 4) : CC l D ty ⟨"PinchedBillModel", "ask", "(I)I"⟩ prog_11_method_120_code 6 (some .int) 4 90 0 0 [.ref h0, .int (nI ta)] [(h0, eO 9 [.ref k0, .ref k1, .ref k2, .ref k3, .int 0, .ref k5, .int 0, .int 0, .int 0, .int 0, .int 0, .int 0, .int 0, .int 0, .int 0, .int (-1), .int 0, .int 0, .int 0, .ref k19, .ref k20, .ref k21, .ref k22, .ref k23, .int 0, .ref k25, .ref k26, .ref k27, .int 0, .int 0, .ref k30, .ref k31, .int 0, .ref k33, .int 0, .int 0, .ref k36, .ref k37, .ref k38, .ref k39]), (k37, eI (ty 0) 4 tsF)] (QI D ty (fun (r : Int32) (w : va_W) => ∃ (w6 : Value) (w7 : Value) (w8 : Value) (w9 : Value) (w10 : Value) (w11 : Value) (w12 : Value) (w13 : Value) (w14 : Value) (w15 : Value) (w16 : Value) (w17 : Value) (w18 : Value) (w24 : Value) (w28 : Value) (w29 : Value) (w32 : Value) (w34 : Value) (w35 : Value), 0 = r ∧ w = [(h0, eO 9 [.ref k0, .ref k1, .ref k2, .ref k3, .int 2, .ref k5, w6, w7, w8, w9, w10, w11, w12, w13, w14, w15, w16, w17, w18, .ref k19, .ref k20, .ref k21, .ref k22, .ref k23, w24, .ref k25, .ref k26, .ref k27, w28, w29, .ref k30, .ref k31, w32, .ref k33, w34, w35, .ref k36, .ref k37, .ref k38, .ref k39])])) := by
  refine CC_of (by decide) ?_
  intro p e s m below meth c A C hP hD hS
  obtain ⟨⟨hx, hb, hml, hown, hts⟩, hr, hlocks, hnm, hK, hE, hA, hZ⟩ := id C
  refine startW [.ref h0, .int (nI ta)] 6 (nle rfl) (lv := [(0, .ref h0), (1, .int (nI ta))]) rfl (fun ls hl => ?_)
  refine lv_aload_n hx hb d_X9_ask_0 rfl (lv_at hl 0 rfl) ?_
  refine lv_aload_n hx hb d_X9_ask_1 rfl (lv_at hl 0 rfl) ?_
  refine lv_iload_n hx hb d_X9_ask_2 rfl (lv_at hl 1 rfl) ?_
  have ct_1 : Cut [(h0, eO 9 [.ref k0, .ref k1, .ref k2, .ref k3, .int 0, .ref k5, .int 0, .int 0, .int 0, .int 0, .int 0, .int 0, .int 0, .int 0, .int 0, .int (-1), .int 0, .int 0, .int 0, .ref k19, .ref k20, .ref k21, .ref k22, .ref k23, .int 0, .ref k25, .ref k26, .ref k27, .int 0, .int 0, .ref k30, .ref k31, .int 0, .ref k33, .int 0, .int 0, .ref k36, .ref k37, .ref k38, .ref k39]), (k37, eI (ty 0) 4 tsF)] [(h0, eO 9 [.ref k0, .ref k1, .ref k2, .ref k3, .int 0, .ref k5, .int 0, .int 0, .int 0, .int 0, .int 0, .int 0, .int 0, .int 0, .int 0, .int (-1), .int 0, .int 0, .int 0, .ref k19, .ref k20, .ref k21, .ref k22, .ref k23, .int 0, .ref k25, .ref k26, .ref k27, .int 0, .int 0, .ref k30, .ref k31, .int 0, .ref k33, .int 0, .int 0, .ref k36, .ref k37, .ref k38, .ref k39]), (k37, eI (ty 0) 4 tsF)] [] [0, 1] [] := ⟨rfl, rfl, rfl, rfl, by decide⟩
  refine cont_I C hP hD hS ct_1 (run_V (As := [.int (nI ta)]) (rest := [.ref h0]) C hP hD hS ct_1 (c_msfT l D ty h0 k0 k1 k2 k3 k5 k19 k20 k21 k22 k23 k25 k26 k27 k30 k31 k33 k36 k37 k38 k39 (.int 0) (.int 0) (.int 0) (.int 0) (.int 0) (.int 0) (.int 0) (.int 0) (.int 0) (.int 0) (.int (-1)) (.int 0) (.int 0) (.int 0) (.int 0) (.int 0) (.int 0) (.int 0) (.int 0) (.int 0) ta hta) kV_PinchedBillModel_469 0 rfl rfl rfl rfl hl.1 rfl (nle rfl) d_X9_ask_3 ⟨by decide, by decide, by decide, by decide⟩) (fun r_3 w_4 H locs hw_2 hP hD hS => ?_)
  obtain ⟨rfl, rfl⟩ := hw_2
  have hP : va_P D vwCl [(h0, eO 9 [.ref k0, .ref k1, .ref k2, .ref k3, .int 0, .ref k5, .int 0, .int 0, .int 0, .int 0, .int 0, .int 0, .int 0, .int 0, .int 0, .int (-1), .int 0, .int 0, .int 0, .ref k19, .ref k20, .ref k21, .ref k22, .ref k23, .int 0, .ref k25, .ref k26, .ref k27, .int 0, .int 0, .ref k30, .ref k31, .int 0, .ref k33, .int 0, .int 0, .ref k36, .ref k37, .ref k38, .ref k39])] H := hP
  have hD : va_D A [(h0, eO 9 [.ref k0, .ref k1, .ref k2, .ref k3, .int 0, .ref k5, .int 0, .int 0, .int 0, .int 0, .int 0, .int 0, .int 0, .int 0, .int 0, .int (-1), .int 0, .int 0, .int 0, .ref k19, .ref k20, .ref k21, .ref k22, .ref k23, .int 0, .ref k25, .ref k26, .ref k27, .int 0, .int 0, .ref k30, .ref k31, .int 0, .ref k33, .int 0, .int 0, .ref k36, .ref k37, .ref k38, .ref k39])] := hD
  refine r_put (w := [(h0, eO 9 [.ref k0, .ref k1, .ref k2, .ref k3, .int 2, .ref k5, .int 0, .int 0, .int 0, .int 0, .int 0, .int 0, .int 0, .int 0, .int 0, .int (-1), .int 0, .int 0, .int 0, .ref k19, .ref k20, .ref k21, .ref k22, .ref k23, .int 0, .ref k25, .ref k26, .ref k27, .int 0, .int 0, .ref k30, .ref k31, .int 0, .ref k33, .int 0, .int 0, .ref k36, .ref k37, .ref k38, .ref k39])]) C hP hD hS 0 rfl rfl lay_X9 tok_X9 nmo_X9 4 (by decide) k_1549 rfl rfl rfl (nle rfl) rfl d_X9_ask_6 (fun H locs hP hD hS => ?_)
  refine lv_aload_n hx hb d_X9_ask_9 rfl (lv_at hl 0 rfl) ?_
  refine r_get (v := .int 2) C hP 0 rfl rfl lay_X9 4 (by decide) k_1549 rfl d_X9_ask_10 ?_
  refine b_if_leF C 18 d_X9_ask_13 (by decide) (by decide) ?_
  refine lv_iconst (v := 0) hx hb d_X9_ask_16 (by decide) ?_
  exact ret_I (w := [(h0, eO 9 [.ref k0, .ref k1, .ref k2, .ref k3, .int 2, .ref k5, .int 0, .int 0, .int 0, .int 0, .int 0, .int 0, .int 0, .int 0, .int 0, .int (-1), .int 0, .int 0, .int 0, .ref k19, .ref k20, .ref k21, .ref k22, .ref k23, .int 0, .ref k25, .ref k26, .ref k27, .int 0, .int 0, .ref k30, .ref k31, .int 0, .ref k33, .int 0, .int 0, .ref k36, .ref k37, .ref k38, .ref k39])]) C hP hD hS [0] rfl rfl ⟨(.int 0), (.int 0), (.int 0), (.int 0), (.int 0), (.int 0), (.int 0), (.int 0), (.int 0), (.int (-1)), (.int 0), (.int 0), (.int 0), (.int 0), (.int 0), (.int 0), (.int 0), (.int 0), (.int 0), rfl, rfl⟩ (by decide) (by decide) d_X9_ask_17
set_option maxHeartbeats 4000000 in
set_option maxRecDepth 100000 in
theorem m_ask1 (l : Launch) (D : va_G) (ty : Nat → ClassId) (h0 : Nat) (k0 : Nat) (k1 : Nat) (k2 : Nat) (k3 : Nat) (k5 : Nat) (k19 : Nat) (k20 : Nat) (k21 : Nat) (k22 : Nat) (k23 : Nat) (k25 : Nat) (k26 : Nat) (k27 : Nat) (k30 : Nat) (k31 : Nat) (k33 : Nat) (k36 : Nat) (k37 : Nat) (k38 : Nat) (k39 : Nat) (t : Int32) (hno : ¬ (¬ t < 0 ∧ ¬ 3 < t)) : CC l D ty ⟨"PinchedBillModel", "ask", "(I)I"⟩ prog_11_method_120_code 6 (some .int) 4 90 0 0 [.ref h0, .int t] [(h0, eO 9 [.ref k0, .ref k1, .ref k2, .ref k3, .int 0, .ref k5, .int 0, .int 0, .int 0, .int 0, .int 0, .int 0, .int 0, .int 0, .int 0, .int (-1), .int 0, .int 0, .int 0, .ref k19, .ref k20, .ref k21, .ref k22, .ref k23, .int 0, .ref k25, .ref k26, .ref k27, .int 0, .int 0, .ref k30, .ref k31, .int 0, .ref k33, .int 0, .int 0, .ref k36, .ref k37, .ref k38, .ref k39]), (k37, eI (ty 0) 4 tsF)] (QI D ty (fun (r : Int32) (w : va_W) => ∃ (w6 : Value) (w7 : Value) (w8 : Value) (w9 : Value) (w10 : Value) (w11 : Value) (w12 : Value) (w13 : Value) (w14 : Value) (w15 : Value) (w16 : Value) (w17 : Value) (w18 : Value) (w24 : Value) (w28 : Value) (w29 : Value) (w32 : Value) (w34 : Value) (w35 : Value), 0 = r ∧ w = [(h0, eO 9 [.ref k0, .ref k1, .ref k2, .ref k3, .int 1, .ref k5, w6, w7, w8, w9, w10, w11, w12, w13, w14, w15, w16, w17, w18, .ref k19, .ref k20, .ref k21, .ref k22, .ref k23, w24, .ref k25, .ref k26, .ref k27, w28, w29, .ref k30, .ref k31, w32, .ref k33, w34, w35, .ref k36, .ref k37, .ref k38, .ref k39])])) := by
  refine CC_of (by decide) ?_
  intro p e s m below meth c A C hP hD hS
  obtain ⟨⟨hx, hb, hml, hown, hts⟩, hr, hlocks, hnm, hK, hE, hA, hZ⟩ := id C
  refine startW [.ref h0, .int t] 6 (nle rfl) (lv := [(0, .ref h0), (1, .int t)]) rfl (fun ls hl => ?_)
  refine lv_aload_n hx hb d_X9_ask_0 rfl (lv_at hl 0 rfl) ?_
  refine lv_aload_n hx hb d_X9_ask_1 rfl (lv_at hl 0 rfl) ?_
  refine lv_iload_n hx hb d_X9_ask_2 rfl (lv_at hl 1 rfl) ?_
  have ct_1 : Cut [(h0, eO 9 [.ref k0, .ref k1, .ref k2, .ref k3, .int 0, .ref k5, .int 0, .int 0, .int 0, .int 0, .int 0, .int 0, .int 0, .int 0, .int 0, .int (-1), .int 0, .int 0, .int 0, .ref k19, .ref k20, .ref k21, .ref k22, .ref k23, .int 0, .ref k25, .ref k26, .ref k27, .int 0, .int 0, .ref k30, .ref k31, .int 0, .ref k33, .int 0, .int 0, .ref k36, .ref k37, .ref k38, .ref k39]), (k37, eI (ty 0) 4 tsF)] [(h0, eO 9 [.ref k0, .ref k1, .ref k2, .ref k3, .int 0, .ref k5, .int 0, .int 0, .int 0, .int 0, .int 0, .int 0, .int 0, .int 0, .int 0, .int (-1), .int 0, .int 0, .int 0, .ref k19, .ref k20, .ref k21, .ref k22, .ref k23, .int 0, .ref k25, .ref k26, .ref k27, .int 0, .int 0, .ref k30, .ref k31, .int 0, .ref k33, .int 0, .int 0, .ref k36, .ref k37, .ref k38, .ref k39]), (k37, eI (ty 0) 4 tsF)] [] [0, 1] [] := ⟨rfl, rfl, rfl, rfl, by decide⟩
  refine cont_I C hP hD hS ct_1 (run_V (As := [.int t]) (rest := [.ref h0]) C hP hD hS ct_1 (c_msfF l D ty h0 k0 k1 k2 k3 k5 k19 k20 k21 k22 k23 k25 k26 k27 k30 k31 k33 k36 k37 k38 k39 (.int 0) (.int 0) (.int 0) (.int 0) (.int 0) (.int 0) (.int 0) (.int 0) (.int 0) (.int 0) (.int (-1)) (.int 0) (.int 0) (.int 0) (.int 0) (.int 0) (.int 0) (.int 0) (.int 0) (.int 0) t hno) kV_PinchedBillModel_469 0 rfl rfl rfl rfl hl.1 rfl (nle rfl) d_X9_ask_3 ⟨by decide, by decide, by decide, by decide⟩) (fun r_3 w_4 H locs hw_2 hP hD hS => ?_)
  obtain ⟨rfl, rfl⟩ := hw_2
  have hP : va_P D vwCl [(h0, eO 9 [.ref k0, .ref k1, .ref k2, .ref k3, .int 0, .ref k5, .int 0, .int 0, .int 0, .int 0, .int 0, .int 0, .int 0, .int 0, .int 0, .int (-1), .int 0, .int 0, .int 0, .ref k19, .ref k20, .ref k21, .ref k22, .ref k23, .int 0, .ref k25, .ref k26, .ref k27, .int 0, .int 0, .ref k30, .ref k31, .int 0, .ref k33, .int 0, .int 0, .ref k36, .ref k37, .ref k38, .ref k39])] H := hP
  have hD : va_D A [(h0, eO 9 [.ref k0, .ref k1, .ref k2, .ref k3, .int 0, .ref k5, .int 0, .int 0, .int 0, .int 0, .int 0, .int 0, .int 0, .int 0, .int 0, .int (-1), .int 0, .int 0, .int 0, .ref k19, .ref k20, .ref k21, .ref k22, .ref k23, .int 0, .ref k25, .ref k26, .ref k27, .int 0, .int 0, .ref k30, .ref k31, .int 0, .ref k33, .int 0, .int 0, .ref k36, .ref k37, .ref k38, .ref k39])] := hD
  refine r_put (w := [(h0, eO 9 [.ref k0, .ref k1, .ref k2, .ref k3, .int 1, .ref k5, .int 0, .int 0, .int 0, .int 0, .int 0, .int 0, .int 0, .int 0, .int 0, .int (-1), .int 0, .int 0, .int 0, .ref k19, .ref k20, .ref k21, .ref k22, .ref k23, .int 0, .ref k25, .ref k26, .ref k27, .int 0, .int 0, .ref k30, .ref k31, .int 0, .ref k33, .int 0, .int 0, .ref k36, .ref k37, .ref k38, .ref k39])]) C hP hD hS 0 rfl rfl lay_X9 tok_X9 nmo_X9 4 (by decide) k_1549 rfl rfl rfl (nle rfl) rfl d_X9_ask_6 (fun H locs hP hD hS => ?_)
  refine lv_aload_n hx hb d_X9_ask_9 rfl (lv_at hl 0 rfl) ?_
  refine r_get (v := .int 1) C hP 0 rfl rfl lay_X9 4 (by decide) k_1549 rfl d_X9_ask_10 ?_
  refine b_if_leF C 18 d_X9_ask_13 (by decide) (by decide) ?_
  refine lv_iconst (v := 0) hx hb d_X9_ask_16 (by decide) ?_
  exact ret_I (w := [(h0, eO 9 [.ref k0, .ref k1, .ref k2, .ref k3, .int 1, .ref k5, .int 0, .int 0, .int 0, .int 0, .int 0, .int 0, .int 0, .int 0, .int 0, .int (-1), .int 0, .int 0, .int 0, .ref k19, .ref k20, .ref k21, .ref k22, .ref k23, .int 0, .ref k25, .ref k26, .ref k27, .int 0, .int 0, .ref k30, .ref k31, .int 0, .ref k33, .int 0, .int 0, .ref k36, .ref k37, .ref k38, .ref k39])]) C hP hD hS [0] rfl rfl ⟨(.int 0), (.int 0), (.int 0), (.int 0), (.int 0), (.int 0), (.int 0), (.int 0), (.int 0), (.int (-1)), (.int 0), (.int 0), (.int 0), (.int 0), (.int 0), (.int 0), (.int 0), (.int 0), (.int 0), rfl, rfl⟩ (by decide) (by decide) d_X9_ask_17
set_option maxHeartbeats 4000000 in
set_option maxRecDepth 100000 in
theorem m_write2 (l : Launch) (D : va_G) (ty : Nat → ClassId) (h0 : Nat) (k0 : Nat) (k1 : Nat) (k2 : Nat) (k3 : Nat) (k5 : Nat) (k19 : Nat) (k20 : Nat) (k21 : Nat) (k22 : Nat) (k23 : Nat) (k25 : Nat) (k26 : Nat) (k27 : Nat) (k30 : Nat) (k31 : Nat) (k33 : Nat) (k36 : Nat) (k37 : Nat) (k38 : Nat) (k39 : Nat) (ta : Nat) (pl : Int32) (vv : Int64) (hta : ta < 4) : CC l D ty ⟨"PinchedBillModel", "write", "(IIJ)J"⟩ prog_11_method_134_code 5 (some .long) 3 66 0 0 [.ref h0, .int (nI ta), .int pl, .long vv] [(h0, eO 9 [.ref k0, .ref k1, .ref k2, .ref k3, .int 0, .ref k5, .int 0, .int 0, .int 0, .int 0, .int 0, .int 0, .int 0, .int 0, .int 0, .int (-1), .int 0, .int 0, .int 0, .ref k19, .ref k20, .ref k21, .ref k22, .ref k23, .int 0, .ref k25, .ref k26, .ref k27, .int 0, .int 0, .ref k30, .ref k31, .int 0, .ref k33, .int 0, .int 0, .ref k36, .ref k37, .ref k38, .ref k39]), (k37, eI (ty 0) 4 tsF)] (QL D ty (fun (r : Int64) (w : va_W) => ∃ (w6 : Value) (w7 : Value) (w8 : Value) (w9 : Value) (w10 : Value) (w11 : Value) (w12 : Value) (w13 : Value) (w14 : Value) (w15 : Value) (w16 : Value) (w17 : Value) (w18 : Value) (w24 : Value) (w28 : Value) (w29 : Value) (w32 : Value) (w34 : Value) (w35 : Value), 0 = r ∧ w = [(h0, eO 9 [.ref k0, .ref k1, .ref k2, .ref k3, .int 2, .ref k5, w6, w7, w8, w9, w10, w11, w12, w13, w14, w15, w16, w17, w18, .ref k19, .ref k20, .ref k21, .ref k22, .ref k23, w24, .ref k25, .ref k26, .ref k27, w28, w29, .ref k30, .ref k31, w32, .ref k33, w34, w35, .ref k36, .ref k37, .ref k38, .ref k39])])) := by
  refine CC_of (by decide) ?_
  intro p e s m below meth c A C hP hD hS
  obtain ⟨⟨hx, hb, hml, hown, hts⟩, hr, hlocks, hnm, hK, hE, hA, hZ⟩ := id C
  refine startW [.ref h0, .int (nI ta), .int pl, .long vv] 5 (nle rfl) (lv := [(0, .ref h0), (1, .int (nI ta)), (2, .int pl), (3, .long vv)]) rfl (fun ls hl => ?_)
  refine lv_aload_n hx hb d_X9_write_0 rfl (lv_at hl 0 rfl) ?_
  refine lv_aload_n hx hb d_X9_write_1 rfl (lv_at hl 0 rfl) ?_
  refine lv_iload_n hx hb d_X9_write_2 rfl (lv_at hl 1 rfl) ?_
  have ct_1 : Cut [(h0, eO 9 [.ref k0, .ref k1, .ref k2, .ref k3, .int 0, .ref k5, .int 0, .int 0, .int 0, .int 0, .int 0, .int 0, .int 0, .int 0, .int 0, .int (-1), .int 0, .int 0, .int 0, .ref k19, .ref k20, .ref k21, .ref k22, .ref k23, .int 0, .ref k25, .ref k26, .ref k27, .int 0, .int 0, .ref k30, .ref k31, .int 0, .ref k33, .int 0, .int 0, .ref k36, .ref k37, .ref k38, .ref k39]), (k37, eI (ty 0) 4 tsF)] [(h0, eO 9 [.ref k0, .ref k1, .ref k2, .ref k3, .int 0, .ref k5, .int 0, .int 0, .int 0, .int 0, .int 0, .int 0, .int 0, .int 0, .int 0, .int (-1), .int 0, .int 0, .int 0, .ref k19, .ref k20, .ref k21, .ref k22, .ref k23, .int 0, .ref k25, .ref k26, .ref k27, .int 0, .int 0, .ref k30, .ref k31, .int 0, .ref k33, .int 0, .int 0, .ref k36, .ref k37, .ref k38, .ref k39]), (k37, eI (ty 0) 4 tsF)] [] [0, 1] [] := ⟨rfl, rfl, rfl, rfl, by decide⟩
  refine cont_I C hP hD hS ct_1 (run_V (As := [.int (nI ta)]) (rest := [.ref h0]) C hP hD hS ct_1 (c_mtfT l D ty h0 k0 k1 k2 k3 k5 k19 k20 k21 k22 k23 k25 k26 k27 k30 k31 k33 k36 k37 k38 k39 (.int 0) (.int 0) (.int 0) (.int 0) (.int 0) (.int 0) (.int 0) (.int 0) (.int 0) (.int 0) (.int (-1)) (.int 0) (.int 0) (.int 0) (.int 0) (.int 0) (.int 0) (.int 0) (.int 0) (.int 0) ta hta) kV_PinchedBillModel_365 0 rfl rfl rfl rfl hl.1 rfl (nle rfl) d_X9_write_3 ⟨by decide, by decide, by decide, by decide⟩) (fun r_3 w_4 H locs hw_2 hP hD hS => ?_)
  obtain ⟨rfl, rfl⟩ := hw_2
  have hP : va_P D vwCl [(h0, eO 9 [.ref k0, .ref k1, .ref k2, .ref k3, .int 0, .ref k5, .int 0, .int 0, .int 0, .int 0, .int 0, .int 0, .int 0, .int 0, .int 0, .int (-1), .int 0, .int 0, .int 0, .ref k19, .ref k20, .ref k21, .ref k22, .ref k23, .int 0, .ref k25, .ref k26, .ref k27, .int 0, .int 0, .ref k30, .ref k31, .int 0, .ref k33, .int 0, .int 0, .ref k36, .ref k37, .ref k38, .ref k39])] H := hP
  have hD : va_D A [(h0, eO 9 [.ref k0, .ref k1, .ref k2, .ref k3, .int 0, .ref k5, .int 0, .int 0, .int 0, .int 0, .int 0, .int 0, .int 0, .int 0, .int 0, .int (-1), .int 0, .int 0, .int 0, .ref k19, .ref k20, .ref k21, .ref k22, .ref k23, .int 0, .ref k25, .ref k26, .ref k27, .int 0, .int 0, .ref k30, .ref k31, .int 0, .ref k33, .int 0, .int 0, .ref k36, .ref k37, .ref k38, .ref k39])] := hD
  refine r_put (w := [(h0, eO 9 [.ref k0, .ref k1, .ref k2, .ref k3, .int 2, .ref k5, .int 0, .int 0, .int 0, .int 0, .int 0, .int 0, .int 0, .int 0, .int 0, .int (-1), .int 0, .int 0, .int 0, .ref k19, .ref k20, .ref k21, .ref k22, .ref k23, .int 0, .ref k25, .ref k26, .ref k27, .int 0, .int 0, .ref k30, .ref k31, .int 0, .ref k33, .int 0, .int 0, .ref k36, .ref k37, .ref k38, .ref k39])]) C hP hD hS 0 rfl rfl lay_X9 tok_X9 nmo_X9 4 (by decide) k_1549 rfl rfl rfl (nle rfl) rfl d_X9_write_6 (fun H locs hP hD hS => ?_)
  refine lv_aload_n hx hb d_X9_write_9 rfl (lv_at hl 0 rfl) ?_
  refine r_get (v := .int 2) C hP 0 rfl rfl lay_X9 4 (by decide) k_1549 rfl d_X9_write_10 ?_
  refine b_if_leF C 18 d_X9_write_13 (by decide) (by decide) ?_
  refine lv_lconst (v := 0) hx hb d_X9_write_16 (by decide) ?_
  exact ret_L (w := [(h0, eO 9 [.ref k0, .ref k1, .ref k2, .ref k3, .int 2, .ref k5, .int 0, .int 0, .int 0, .int 0, .int 0, .int 0, .int 0, .int 0, .int 0, .int (-1), .int 0, .int 0, .int 0, .ref k19, .ref k20, .ref k21, .ref k22, .ref k23, .int 0, .ref k25, .ref k26, .ref k27, .int 0, .int 0, .ref k30, .ref k31, .int 0, .ref k33, .int 0, .int 0, .ref k36, .ref k37, .ref k38, .ref k39])]) C hP hD hS [0] rfl rfl ⟨(.int 0), (.int 0), (.int 0), (.int 0), (.int 0), (.int 0), (.int 0), (.int 0), (.int 0), (.int (-1)), (.int 0), (.int 0), (.int 0), (.int 0), (.int 0), (.int 0), (.int 0), (.int 0), (.int 0), rfl, rfl⟩ (by decide) (by decide) d_X9_write_17
set_option maxHeartbeats 4000000 in
set_option maxRecDepth 100000 in
theorem m_write1 (l : Launch) (D : va_G) (ty : Nat → ClassId) (h0 : Nat) (k0 : Nat) (k1 : Nat) (k2 : Nat) (k3 : Nat) (k5 : Nat) (k19 : Nat) (k20 : Nat) (k21 : Nat) (k22 : Nat) (k23 : Nat) (k25 : Nat) (k26 : Nat) (k27 : Nat) (k30 : Nat) (k31 : Nat) (k33 : Nat) (k36 : Nat) (k37 : Nat) (k38 : Nat) (k39 : Nat) (t : Int32) (pl : Int32) (vv : Int64) (hno : ¬ (¬ t < 0 ∧ ¬ 3 < t)) : CC l D ty ⟨"PinchedBillModel", "write", "(IIJ)J"⟩ prog_11_method_134_code 5 (some .long) 3 66 0 0 [.ref h0, .int t, .int pl, .long vv] [(h0, eO 9 [.ref k0, .ref k1, .ref k2, .ref k3, .int 0, .ref k5, .int 0, .int 0, .int 0, .int 0, .int 0, .int 0, .int 0, .int 0, .int 0, .int (-1), .int 0, .int 0, .int 0, .ref k19, .ref k20, .ref k21, .ref k22, .ref k23, .int 0, .ref k25, .ref k26, .ref k27, .int 0, .int 0, .ref k30, .ref k31, .int 0, .ref k33, .int 0, .int 0, .ref k36, .ref k37, .ref k38, .ref k39]), (k37, eI (ty 0) 4 tsF)] (QL D ty (fun (r : Int64) (w : va_W) => ∃ (w6 : Value) (w7 : Value) (w8 : Value) (w9 : Value) (w10 : Value) (w11 : Value) (w12 : Value) (w13 : Value) (w14 : Value) (w15 : Value) (w16 : Value) (w17 : Value) (w18 : Value) (w24 : Value) (w28 : Value) (w29 : Value) (w32 : Value) (w34 : Value) (w35 : Value), 0 = r ∧ w = [(h0, eO 9 [.ref k0, .ref k1, .ref k2, .ref k3, .int 1, .ref k5, w6, w7, w8, w9, w10, w11, w12, w13, w14, w15, w16, w17, w18, .ref k19, .ref k20, .ref k21, .ref k22, .ref k23, w24, .ref k25, .ref k26, .ref k27, w28, w29, .ref k30, .ref k31, w32, .ref k33, w34, w35, .ref k36, .ref k37, .ref k38, .ref k39])])) := by
  refine CC_of (by decide) ?_
  intro p e s m below meth c A C hP hD hS
  obtain ⟨⟨hx, hb, hml, hown, hts⟩, hr, hlocks, hnm, hK, hE, hA, hZ⟩ := id C
  refine startW [.ref h0, .int t, .int pl, .long vv] 5 (nle rfl) (lv := [(0, .ref h0), (1, .int t), (2, .int pl), (3, .long vv)]) rfl (fun ls hl => ?_)
  refine lv_aload_n hx hb d_X9_write_0 rfl (lv_at hl 0 rfl) ?_
  refine lv_aload_n hx hb d_X9_write_1 rfl (lv_at hl 0 rfl) ?_
  refine lv_iload_n hx hb d_X9_write_2 rfl (lv_at hl 1 rfl) ?_
  have ct_1 : Cut [(h0, eO 9 [.ref k0, .ref k1, .ref k2, .ref k3, .int 0, .ref k5, .int 0, .int 0, .int 0, .int 0, .int 0, .int 0, .int 0, .int 0, .int 0, .int (-1), .int 0, .int 0, .int 0, .ref k19, .ref k20, .ref k21, .ref k22, .ref k23, .int 0, .ref k25, .ref k26, .ref k27, .int 0, .int 0, .ref k30, .ref k31, .int 0, .ref k33, .int 0, .int 0, .ref k36, .ref k37, .ref k38, .ref k39]), (k37, eI (ty 0) 4 tsF)] [(h0, eO 9 [.ref k0, .ref k1, .ref k2, .ref k3, .int 0, .ref k5, .int 0, .int 0, .int 0, .int 0, .int 0, .int 0, .int 0, .int 0, .int 0, .int (-1), .int 0, .int 0, .int 0, .ref k19, .ref k20, .ref k21, .ref k22, .ref k23, .int 0, .ref k25, .ref k26, .ref k27, .int 0, .int 0, .ref k30, .ref k31, .int 0, .ref k33, .int 0, .int 0, .ref k36, .ref k37, .ref k38, .ref k39]), (k37, eI (ty 0) 4 tsF)] [] [0, 1] [] := ⟨rfl, rfl, rfl, rfl, by decide⟩
  refine cont_I C hP hD hS ct_1 (run_V (As := [.int t]) (rest := [.ref h0]) C hP hD hS ct_1 (c_mtfF l D ty h0 k0 k1 k2 k3 k5 k19 k20 k21 k22 k23 k25 k26 k27 k30 k31 k33 k36 k37 k38 k39 (.int 0) (.int 0) (.int 0) (.int 0) (.int 0) (.int 0) (.int 0) (.int 0) (.int 0) (.int 0) (.int (-1)) (.int 0) (.int 0) (.int 0) (.int 0) (.int 0) (.int 0) (.int 0) (.int 0) (.int 0) t hno) kV_PinchedBillModel_365 0 rfl rfl rfl rfl hl.1 rfl (nle rfl) d_X9_write_3 ⟨by decide, by decide, by decide, by decide⟩) (fun r_3 w_4 H locs hw_2 hP hD hS => ?_)
  obtain ⟨rfl, rfl⟩ := hw_2
  have hP : va_P D vwCl [(h0, eO 9 [.ref k0, .ref k1, .ref k2, .ref k3, .int 0, .ref k5, .int 0, .int 0, .int 0, .int 0, .int 0, .int 0, .int 0, .int 0, .int 0, .int (-1), .int 0, .int 0, .int 0, .ref k19, .ref k20, .ref k21, .ref k22, .ref k23, .int 0, .ref k25, .ref k26, .ref k27, .int 0, .int 0, .ref k30, .ref k31, .int 0, .ref k33, .int 0, .int 0, .ref k36, .ref k37, .ref k38, .ref k39])] H := hP
  have hD : va_D A [(h0, eO 9 [.ref k0, .ref k1, .ref k2, .ref k3, .int 0, .ref k5, .int 0, .int 0, .int 0, .int 0, .int 0, .int 0, .int 0, .int 0, .int 0, .int (-1), .int 0, .int 0, .int 0, .ref k19, .ref k20, .ref k21, .ref k22, .ref k23, .int 0, .ref k25, .ref k26, .ref k27, .int 0, .int 0, .ref k30, .ref k31, .int 0, .ref k33, .int 0, .int 0, .ref k36, .ref k37, .ref k38, .ref k39])] := hD
  refine r_put (w := [(h0, eO 9 [.ref k0, .ref k1, .ref k2, .ref k3, .int 1, .ref k5, .int 0, .int 0, .int 0, .int 0, .int 0, .int 0, .int 0, .int 0, .int 0, .int (-1), .int 0, .int 0, .int 0, .ref k19, .ref k20, .ref k21, .ref k22, .ref k23, .int 0, .ref k25, .ref k26, .ref k27, .int 0, .int 0, .ref k30, .ref k31, .int 0, .ref k33, .int 0, .int 0, .ref k36, .ref k37, .ref k38, .ref k39])]) C hP hD hS 0 rfl rfl lay_X9 tok_X9 nmo_X9 4 (by decide) k_1549 rfl rfl rfl (nle rfl) rfl d_X9_write_6 (fun H locs hP hD hS => ?_)
  refine lv_aload_n hx hb d_X9_write_9 rfl (lv_at hl 0 rfl) ?_
  refine r_get (v := .int 1) C hP 0 rfl rfl lay_X9 4 (by decide) k_1549 rfl d_X9_write_10 ?_
  refine b_if_leF C 18 d_X9_write_13 (by decide) (by decide) ?_
  refine lv_lconst (v := 0) hx hb d_X9_write_16 (by decide) ?_
  exact ret_L (w := [(h0, eO 9 [.ref k0, .ref k1, .ref k2, .ref k3, .int 1, .ref k5, .int 0, .int 0, .int 0, .int 0, .int 0, .int 0, .int 0, .int 0, .int 0, .int (-1), .int 0, .int 0, .int 0, .ref k19, .ref k20, .ref k21, .ref k22, .ref k23, .int 0, .ref k25, .ref k26, .ref k27, .int 0, .int 0, .ref k30, .ref k31, .int 0, .ref k33, .int 0, .int 0, .ref k36, .ref k37, .ref k38, .ref k39])]) C hP hD hS [0] rfl rfl ⟨(.int 0), (.int 0), (.int 0), (.int 0), (.int 0), (.int 0), (.int 0), (.int 0), (.int 0), (.int (-1)), (.int 0), (.int 0), (.int 0), (.int 0), (.int 0), (.int 0), (.int 0), (.int 0), (.int 0), rfl, rfl⟩ (by decide) (by decide) d_X9_write_17
set_option maxHeartbeats 4000000 in
set_option maxRecDepth 100000 in
theorem m_copy2 (l : Launch) (D : va_G) (ty : Nat → ClassId) (h0 : Nat) (k0 : Nat) (k1 : Nat) (k2 : Nat) (k3 : Nat) (k5 : Nat) (k19 : Nat) (k20 : Nat) (k21 : Nat) (k22 : Nat) (k23 : Nat) (k25 : Nat) (k26 : Nat) (k27 : Nat) (k30 : Nat) (k31 : Nat) (k33 : Nat) (k36 : Nat) (k37 : Nat) (k38 : Nat) (k39 : Nat) (ta : Nat) (b : Int32) (hta : ta < 4) : CC l D ty ⟨"PinchedBillModel", "copy", "(II)I"⟩ prog_11_method_135_code 4 (some .int) 3 66 0 0 [.ref h0, .int (nI ta), .int b] [(h0, eO 9 [.ref k0, .ref k1, .ref k2, .ref k3, .int 0, .ref k5, .int 0, .int 0, .int 0, .int 0, .int 0, .int 0, .int 0, .int 0, .int 0, .int (-1), .int 0, .int 0, .int 0, .ref k19, .ref k20, .ref k21, .ref k22, .ref k23, .int 0, .ref k25, .ref k26, .ref k27, .int 0, .int 0, .ref k30, .ref k31, .int 0, .ref k33, .int 0, .int 0, .ref k36, .ref k37, .ref k38, .ref k39]), (k37, eI (ty 0) 4 tsF)] (QI D ty (fun (r : Int32) (w : va_W) => ∃ (w6 : Value) (w7 : Value) (w8 : Value) (w9 : Value) (w10 : Value) (w11 : Value) (w12 : Value) (w13 : Value) (w14 : Value) (w15 : Value) (w16 : Value) (w17 : Value) (w18 : Value) (w24 : Value) (w28 : Value) (w29 : Value) (w32 : Value) (w34 : Value) (w35 : Value), 0 = r ∧ w = [(h0, eO 9 [.ref k0, .ref k1, .ref k2, .ref k3, .int 2, .ref k5, w6, w7, w8, w9, w10, w11, w12, w13, w14, w15, w16, w17, w18, .ref k19, .ref k20, .ref k21, .ref k22, .ref k23, w24, .ref k25, .ref k26, .ref k27, w28, w29, .ref k30, .ref k31, w32, .ref k33, w34, w35, .ref k36, .ref k37, .ref k38, .ref k39])])) := by
  refine CC_of (by decide) ?_
  intro p e s m below meth c A C hP hD hS
  obtain ⟨⟨hx, hb, hml, hown, hts⟩, hr, hlocks, hnm, hK, hE, hA, hZ⟩ := id C
  refine startW [.ref h0, .int (nI ta), .int b] 4 (nle rfl) (lv := [(0, .ref h0), (1, .int (nI ta)), (2, .int b)]) rfl (fun ls hl => ?_)
  refine lv_aload_n hx hb d_X9_copy_0 rfl (lv_at hl 0 rfl) ?_
  refine lv_aload_n hx hb d_X9_copy_1 rfl (lv_at hl 0 rfl) ?_
  refine lv_iload_n hx hb d_X9_copy_2 rfl (lv_at hl 1 rfl) ?_
  have ct_1 : Cut [(h0, eO 9 [.ref k0, .ref k1, .ref k2, .ref k3, .int 0, .ref k5, .int 0, .int 0, .int 0, .int 0, .int 0, .int 0, .int 0, .int 0, .int 0, .int (-1), .int 0, .int 0, .int 0, .ref k19, .ref k20, .ref k21, .ref k22, .ref k23, .int 0, .ref k25, .ref k26, .ref k27, .int 0, .int 0, .ref k30, .ref k31, .int 0, .ref k33, .int 0, .int 0, .ref k36, .ref k37, .ref k38, .ref k39]), (k37, eI (ty 0) 4 tsF)] [(h0, eO 9 [.ref k0, .ref k1, .ref k2, .ref k3, .int 0, .ref k5, .int 0, .int 0, .int 0, .int 0, .int 0, .int 0, .int 0, .int 0, .int 0, .int (-1), .int 0, .int 0, .int 0, .ref k19, .ref k20, .ref k21, .ref k22, .ref k23, .int 0, .ref k25, .ref k26, .ref k27, .int 0, .int 0, .ref k30, .ref k31, .int 0, .ref k33, .int 0, .int 0, .ref k36, .ref k37, .ref k38, .ref k39]), (k37, eI (ty 0) 4 tsF)] [] [0, 1] [] := ⟨rfl, rfl, rfl, rfl, by decide⟩
  refine cont_I C hP hD hS ct_1 (run_V (As := [.int (nI ta)]) (rest := [.ref h0]) C hP hD hS ct_1 (c_mtfT l D ty h0 k0 k1 k2 k3 k5 k19 k20 k21 k22 k23 k25 k26 k27 k30 k31 k33 k36 k37 k38 k39 (.int 0) (.int 0) (.int 0) (.int 0) (.int 0) (.int 0) (.int 0) (.int 0) (.int 0) (.int 0) (.int (-1)) (.int 0) (.int 0) (.int 0) (.int 0) (.int 0) (.int 0) (.int 0) (.int 0) (.int 0) ta hta) kV_PinchedBillModel_365 0 rfl rfl rfl rfl hl.1 rfl (nle rfl) d_X9_copy_3 ⟨by decide, by decide, by decide, by decide⟩) (fun r_3 w_4 H locs hw_2 hP hD hS => ?_)
  obtain ⟨rfl, rfl⟩ := hw_2
  have hP : va_P D vwCl [(h0, eO 9 [.ref k0, .ref k1, .ref k2, .ref k3, .int 0, .ref k5, .int 0, .int 0, .int 0, .int 0, .int 0, .int 0, .int 0, .int 0, .int 0, .int (-1), .int 0, .int 0, .int 0, .ref k19, .ref k20, .ref k21, .ref k22, .ref k23, .int 0, .ref k25, .ref k26, .ref k27, .int 0, .int 0, .ref k30, .ref k31, .int 0, .ref k33, .int 0, .int 0, .ref k36, .ref k37, .ref k38, .ref k39])] H := hP
  have hD : va_D A [(h0, eO 9 [.ref k0, .ref k1, .ref k2, .ref k3, .int 0, .ref k5, .int 0, .int 0, .int 0, .int 0, .int 0, .int 0, .int 0, .int 0, .int 0, .int (-1), .int 0, .int 0, .int 0, .ref k19, .ref k20, .ref k21, .ref k22, .ref k23, .int 0, .ref k25, .ref k26, .ref k27, .int 0, .int 0, .ref k30, .ref k31, .int 0, .ref k33, .int 0, .int 0, .ref k36, .ref k37, .ref k38, .ref k39])] := hD
  refine r_put (w := [(h0, eO 9 [.ref k0, .ref k1, .ref k2, .ref k3, .int 2, .ref k5, .int 0, .int 0, .int 0, .int 0, .int 0, .int 0, .int 0, .int 0, .int 0, .int (-1), .int 0, .int 0, .int 0, .ref k19, .ref k20, .ref k21, .ref k22, .ref k23, .int 0, .ref k25, .ref k26, .ref k27, .int 0, .int 0, .ref k30, .ref k31, .int 0, .ref k33, .int 0, .int 0, .ref k36, .ref k37, .ref k38, .ref k39])]) C hP hD hS 0 rfl rfl lay_X9 tok_X9 nmo_X9 4 (by decide) k_1549 rfl rfl rfl (nle rfl) rfl d_X9_copy_6 (fun H locs hP hD hS => ?_)
  refine lv_aload_n hx hb d_X9_copy_9 rfl (lv_at hl 0 rfl) ?_
  refine r_get (v := .int 2) C hP 0 rfl rfl lay_X9 4 (by decide) k_1549 rfl d_X9_copy_10 ?_
  refine b_if_neT C 30 d_X9_copy_13 (by decide) (by decide) ?_
  refine lv_aload_n hx hb d_X9_copy_30 rfl (lv_at hl 0 rfl) ?_
  refine r_get (v := .int 2) C hP 0 rfl rfl lay_X9 4 (by decide) k_1549 rfl d_X9_copy_31 ?_
  refine b_if_leF C 39 d_X9_copy_34 (by decide) (by decide) ?_
  refine lv_iconst (v := 0) hx hb d_X9_copy_37 (by decide) ?_
  exact ret_I (w := [(h0, eO 9 [.ref k0, .ref k1, .ref k2, .ref k3, .int 2, .ref k5, .int 0, .int 0, .int 0, .int 0, .int 0, .int 0, .int 0, .int 0, .int 0, .int (-1), .int 0, .int 0, .int 0, .ref k19, .ref k20, .ref k21, .ref k22, .ref k23, .int 0, .ref k25, .ref k26, .ref k27, .int 0, .int 0, .ref k30, .ref k31, .int 0, .ref k33, .int 0, .int 0, .ref k36, .ref k37, .ref k38, .ref k39])]) C hP hD hS [0] rfl rfl ⟨(.int 0), (.int 0), (.int 0), (.int 0), (.int 0), (.int 0), (.int 0), (.int 0), (.int 0), (.int (-1)), (.int 0), (.int 0), (.int 0), (.int 0), (.int 0), (.int 0), (.int 0), (.int 0), (.int 0), rfl, rfl⟩ (by decide) (by decide) d_X9_copy_38
set_option maxHeartbeats 4000000 in
set_option maxRecDepth 100000 in
theorem m_copy1 (l : Launch) (D : va_G) (ty : Nat → ClassId) (h0 : Nat) (k0 : Nat) (k1 : Nat) (k2 : Nat) (k3 : Nat) (k5 : Nat) (k19 : Nat) (k20 : Nat) (k21 : Nat) (k22 : Nat) (k23 : Nat) (k25 : Nat) (k26 : Nat) (k27 : Nat) (k30 : Nat) (k31 : Nat) (k33 : Nat) (k36 : Nat) (k37 : Nat) (k38 : Nat) (k39 : Nat) (t : Int32) (b : Int32) (hno : ¬ (¬ t < 0 ∧ ¬ 3 < t)) : CC l D ty ⟨"PinchedBillModel", "copy", "(II)I"⟩ prog_11_method_135_code 4 (some .int) 3 66 0 0 [.ref h0, .int t, .int b] [(h0, eO 9 [.ref k0, .ref k1, .ref k2, .ref k3, .int 0, .ref k5, .int 0, .int 0, .int 0, .int 0, .int 0, .int 0, .int 0, .int 0, .int 0, .int (-1), .int 0, .int 0, .int 0, .ref k19, .ref k20, .ref k21, .ref k22, .ref k23, .int 0, .ref k25, .ref k26, .ref k27, .int 0, .int 0, .ref k30, .ref k31, .int 0, .ref k33, .int 0, .int 0, .ref k36, .ref k37, .ref k38, .ref k39]), (k37, eI (ty 0) 4 tsF)] (QI D ty (fun (r : Int32) (w : va_W) => ∃ (w6 : Value) (w7 : Value) (w8 : Value) (w9 : Value) (w10 : Value) (w11 : Value) (w12 : Value) (w13 : Value) (w14 : Value) (w15 : Value) (w16 : Value) (w17 : Value) (w18 : Value) (w24 : Value) (w28 : Value) (w29 : Value) (w32 : Value) (w34 : Value) (w35 : Value), 0 = r ∧ w = [(h0, eO 9 [.ref k0, .ref k1, .ref k2, .ref k3, .int 1, .ref k5, w6, w7, w8, w9, w10, w11, w12, w13, w14, w15, w16, w17, w18, .ref k19, .ref k20, .ref k21, .ref k22, .ref k23, w24, .ref k25, .ref k26, .ref k27, w28, w29, .ref k30, .ref k31, w32, .ref k33, w34, w35, .ref k36, .ref k37, .ref k38, .ref k39])])) := by
  refine CC_of (by decide) ?_
  intro p e s m below meth c A C hP hD hS
  obtain ⟨⟨hx, hb, hml, hown, hts⟩, hr, hlocks, hnm, hK, hE, hA, hZ⟩ := id C
  refine startW [.ref h0, .int t, .int b] 4 (nle rfl) (lv := [(0, .ref h0), (1, .int t), (2, .int b)]) rfl (fun ls hl => ?_)
  refine lv_aload_n hx hb d_X9_copy_0 rfl (lv_at hl 0 rfl) ?_
  refine lv_aload_n hx hb d_X9_copy_1 rfl (lv_at hl 0 rfl) ?_
  refine lv_iload_n hx hb d_X9_copy_2 rfl (lv_at hl 1 rfl) ?_
  have ct_1 : Cut [(h0, eO 9 [.ref k0, .ref k1, .ref k2, .ref k3, .int 0, .ref k5, .int 0, .int 0, .int 0, .int 0, .int 0, .int 0, .int 0, .int 0, .int 0, .int (-1), .int 0, .int 0, .int 0, .ref k19, .ref k20, .ref k21, .ref k22, .ref k23, .int 0, .ref k25, .ref k26, .ref k27, .int 0, .int 0, .ref k30, .ref k31, .int 0, .ref k33, .int 0, .int 0, .ref k36, .ref k37, .ref k38, .ref k39]), (k37, eI (ty 0) 4 tsF)] [(h0, eO 9 [.ref k0, .ref k1, .ref k2, .ref k3, .int 0, .ref k5, .int 0, .int 0, .int 0, .int 0, .int 0, .int 0, .int 0, .int 0, .int 0, .int (-1), .int 0, .int 0, .int 0, .ref k19, .ref k20, .ref k21, .ref k22, .ref k23, .int 0, .ref k25, .ref k26, .ref k27, .int 0, .int 0, .ref k30, .ref k31, .int 0, .ref k33, .int 0, .int 0, .ref k36, .ref k37, .ref k38, .ref k39]), (k37, eI (ty 0) 4 tsF)] [] [0, 1] [] := ⟨rfl, rfl, rfl, rfl, by decide⟩
  refine cont_I C hP hD hS ct_1 (run_V (As := [.int t]) (rest := [.ref h0]) C hP hD hS ct_1 (c_mtfF l D ty h0 k0 k1 k2 k3 k5 k19 k20 k21 k22 k23 k25 k26 k27 k30 k31 k33 k36 k37 k38 k39 (.int 0) (.int 0) (.int 0) (.int 0) (.int 0) (.int 0) (.int 0) (.int 0) (.int 0) (.int 0) (.int (-1)) (.int 0) (.int 0) (.int 0) (.int 0) (.int 0) (.int 0) (.int 0) (.int 0) (.int 0) t hno) kV_PinchedBillModel_365 0 rfl rfl rfl rfl hl.1 rfl (nle rfl) d_X9_copy_3 ⟨by decide, by decide, by decide, by decide⟩) (fun r_3 w_4 H locs hw_2 hP hD hS => ?_)
  obtain ⟨rfl, rfl⟩ := hw_2
  have hP : va_P D vwCl [(h0, eO 9 [.ref k0, .ref k1, .ref k2, .ref k3, .int 0, .ref k5, .int 0, .int 0, .int 0, .int 0, .int 0, .int 0, .int 0, .int 0, .int 0, .int (-1), .int 0, .int 0, .int 0, .ref k19, .ref k20, .ref k21, .ref k22, .ref k23, .int 0, .ref k25, .ref k26, .ref k27, .int 0, .int 0, .ref k30, .ref k31, .int 0, .ref k33, .int 0, .int 0, .ref k36, .ref k37, .ref k38, .ref k39])] H := hP
  have hD : va_D A [(h0, eO 9 [.ref k0, .ref k1, .ref k2, .ref k3, .int 0, .ref k5, .int 0, .int 0, .int 0, .int 0, .int 0, .int 0, .int 0, .int 0, .int 0, .int (-1), .int 0, .int 0, .int 0, .ref k19, .ref k20, .ref k21, .ref k22, .ref k23, .int 0, .ref k25, .ref k26, .ref k27, .int 0, .int 0, .ref k30, .ref k31, .int 0, .ref k33, .int 0, .int 0, .ref k36, .ref k37, .ref k38, .ref k39])] := hD
  refine r_put (w := [(h0, eO 9 [.ref k0, .ref k1, .ref k2, .ref k3, .int 1, .ref k5, .int 0, .int 0, .int 0, .int 0, .int 0, .int 0, .int 0, .int 0, .int 0, .int (-1), .int 0, .int 0, .int 0, .ref k19, .ref k20, .ref k21, .ref k22, .ref k23, .int 0, .ref k25, .ref k26, .ref k27, .int 0, .int 0, .ref k30, .ref k31, .int 0, .ref k33, .int 0, .int 0, .ref k36, .ref k37, .ref k38, .ref k39])]) C hP hD hS 0 rfl rfl lay_X9 tok_X9 nmo_X9 4 (by decide) k_1549 rfl rfl rfl (nle rfl) rfl d_X9_copy_6 (fun H locs hP hD hS => ?_)
  refine lv_aload_n hx hb d_X9_copy_9 rfl (lv_at hl 0 rfl) ?_
  refine r_get (v := .int 1) C hP 0 rfl rfl lay_X9 4 (by decide) k_1549 rfl d_X9_copy_10 ?_
  refine b_if_neT C 30 d_X9_copy_13 (by decide) (by decide) ?_
  refine lv_aload_n hx hb d_X9_copy_30 rfl (lv_at hl 0 rfl) ?_
  refine r_get (v := .int 1) C hP 0 rfl rfl lay_X9 4 (by decide) k_1549 rfl d_X9_copy_31 ?_
  refine b_if_leF C 39 d_X9_copy_34 (by decide) (by decide) ?_
  refine lv_iconst (v := 0) hx hb d_X9_copy_37 (by decide) ?_
  exact ret_I (w := [(h0, eO 9 [.ref k0, .ref k1, .ref k2, .ref k3, .int 1, .ref k5, .int 0, .int 0, .int 0, .int 0, .int 0, .int 0, .int 0, .int 0, .int 0, .int (-1), .int 0, .int 0, .int 0, .ref k19, .ref k20, .ref k21, .ref k22, .ref k23, .int 0, .ref k25, .ref k26, .ref k27, .int 0, .int 0, .ref k30, .ref k31, .int 0, .ref k33, .int 0, .int 0, .ref k36, .ref k37, .ref k38, .ref k39])]) C hP hD hS [0] rfl rfl ⟨(.int 0), (.int 0), (.int 0), (.int 0), (.int 0), (.int 0), (.int 0), (.int 0), (.int 0), (.int (-1)), (.int 0), (.int 0), (.int 0), (.int 0), (.int 0), (.int 0), (.int 0), (.int 0), (.int 0), rfl, rfl⟩ (by decide) (by decide) d_X9_copy_38
set_option maxHeartbeats 4000000 in
set_option maxRecDepth 100000 in
theorem m_restore1 (l : Launch) (D : va_G) (ty : Nat → ClassId) (h0 : Nat) (k0 : Nat) (k1 : Nat) (k2 : Nat) (k3 : Nat) (k5 : Nat) (k19 : Nat) (k20 : Nat) (k21 : Nat) (k22 : Nat) (k23 : Nat) (k25 : Nat) (k26 : Nat) (k27 : Nat) (k30 : Nat) (k31 : Nat) (k33 : Nat) (k36 : Nat) (k37 : Nat) (k38 : Nat) (k39 : Nat) (t : Int32) (hno : ¬ (¬ t < 0 ∧ ¬ 2 < t)) : CC l D ty ⟨"PinchedBillModel", "restore", "(I)V"⟩ prog_11_method_137_code 3 none 1 25 0 0 [.ref h0, .int t] [(h0, eO 9 [.ref k0, .ref k1, .ref k2, .ref k3, .int 0, .ref k5, .int 0, .int 0, .int 0, .int 0, .int 0, .int 0, .int 0, .int 0, .int 0, .int (-1), .int 0, .int 0, .int 0, .ref k19, .ref k20, .ref k21, .ref k22, .ref k23, .int 0, .ref k25, .ref k26, .ref k27, .int 0, .int 0, .ref k30, .ref k31, .int 0, .ref k33, .int 0, .int 0, .ref k36, .ref k37, .ref k38, .ref k39]), (k3, eI (ty 2) 3 (fun _ => 0))] (QV D ty (fun (w : va_W) => ∃ (w6 : Value) (w7 : Value) (w8 : Value) (w9 : Value) (w10 : Value) (w11 : Value) (w12 : Value) (w13 : Value) (w14 : Value) (w15 : Value) (w16 : Value) (w17 : Value) (w18 : Value) (w24 : Value) (w28 : Value) (w29 : Value) (w32 : Value) (w34 : Value) (w35 : Value), w = [(h0, eO 9 [.ref k0, .ref k1, .ref k2, .ref k3, .int 1, .ref k5, w6, w7, w8, w9, w10, w11, w12, w13, w14, w15, w16, w17, w18, .ref k19, .ref k20, .ref k21, .ref k22, .ref k23, w24, .ref k25, .ref k26, .ref k27, w28, w29, .ref k30, .ref k31, w32, .ref k33, w34, w35, .ref k36, .ref k37, .ref k38, .ref k39])])) := by
  refine CC_of (by decide) ?_
  intro p e s m below meth c A C hP hD hS
  obtain ⟨⟨hx, hb, hml, hown, hts⟩, hr, hlocks, hnm, hK, hE, hA, hZ⟩ := id C
  refine startW [.ref h0, .int t] 3 (nle rfl) (lv := [(0, .ref h0), (1, .int t)]) rfl (fun ls hl => ?_)
  refine lv_aload_n hx hb d_X9_restore_0 rfl (lv_at hl 0 rfl) ?_
  refine lv_iload_n hx hb d_X9_restore_1 rfl (lv_at hl 1 rfl) ?_
  refine lv_i2l (v := (t).toInt64) hx hb d_X9_restore_2 rfl ?_
  refine lv_lconst (v := 0) hx hb d_X9_restore_3 (by decide) ?_
  refine lv_ldc2 hx hb hown (hts _ k_2178) d_X9_restore_4 ?_
  have ct_1 : Cut [(h0, eO 9 [.ref k0, .ref k1, .ref k2, .ref k3, .int 0, .ref k5, .int 0, .int 0, .int 0, .int 0, .int 0, .int 0, .int 0, .int 0, .int 0, .int (-1), .int 0, .int 0, .int 0, .ref k19, .ref k20, .ref k21, .ref k22, .ref k23, .int 0, .ref k25, .ref k26, .ref k27, .int 0, .int 0, .ref k30, .ref k31, .int 0, .ref k33, .int 0, .int 0, .ref k36, .ref k37, .ref k38, .ref k39]), (k3, eI (ty 2) 3 (fun _ => 0))] [] [(h0, eO 9 [.ref k0, .ref k1, .ref k2, .ref k3, .int 0, .ref k5, .int 0, .int 0, .int 0, .int 0, .int 0, .int 0, .int 0, .int 0, .int 0, .int (-1), .int 0, .int 0, .int 0, .ref k19, .ref k20, .ref k21, .ref k22, .ref k23, .int 0, .ref k25, .ref k26, .ref k27, .int 0, .int 0, .ref k30, .ref k31, .int 0, .ref k33, .int 0, .int 0, .ref k36, .ref k37, .ref k38, .ref k39]), (k3, eI (ty 2) 3 (fun _ => 0))] [] [0, 1] := ⟨rfl, rfl, rfl, rfl, by decide⟩
  refine cont_I C hP hD hS ct_1 (run_S (As := [.long (t).toInt64, .long 0, .long 2]) (rest := [.ref h0]) C hP hD hS ct_1 (c_mwi l D ty ((t).toInt64) 0 2) kS_PinchedBillModel_140 rfl hl.1 rfl (nle rfl) d_X9_restore_7 ⟨by decide, by decide, by decide, by decide⟩) (fun r_3 w_4 H locs hw_2 hP hD hS => ?_)
  obtain ⟨rfl, rfl⟩ := hw_2
  have hP : va_P D vwCl [(h0, eO 9 [.ref k0, .ref k1, .ref k2, .ref k3, .int 0, .ref k5, .int 0, .int 0, .int 0, .int 0, .int 0, .int 0, .int 0, .int 0, .int 0, .int (-1), .int 0, .int 0, .int 0, .ref k19, .ref k20, .ref k21, .ref k22, .ref k23, .int 0, .ref k25, .ref k26, .ref k27, .int 0, .int 0, .ref k30, .ref k31, .int 0, .ref k33, .int 0, .int 0, .ref k36, .ref k37, .ref k38, .ref k39]), (k3, eI (ty 2) 3 (fun _ => 0))] H := hP
  have hD : va_D A [(h0, eO 9 [.ref k0, .ref k1, .ref k2, .ref k3, .int 0, .ref k5, .int 0, .int 0, .int 0, .int 0, .int 0, .int 0, .int 0, .int 0, .int 0, .int (-1), .int 0, .int 0, .int 0, .ref k19, .ref k20, .ref k21, .ref k22, .ref k23, .int 0, .ref k25, .ref k26, .ref k27, .int 0, .int 0, .ref k30, .ref k31, .int 0, .ref k33, .int 0, .int 0, .ref k36, .ref k37, .ref k38, .ref k39]), (k3, eI (ty 2) 3 (fun _ => 0))] := hD
  refine topeq (z := 0) (wiQ (n := t) (lo := 0) (hi := 2) rfl rfl rfl hno) ?_
  refine b_if_neF C 17 d_X9_restore_10 (by decide) (by decide) ?_
  refine lv_iconst (v := 1) hx hb d_X9_restore_13 (by decide) ?_
  refine lv_goto (tgt := 31) hx hb d_X9_restore_14 (by decide) ?_
  refine r_put (w := [(h0, eO 9 [.ref k0, .ref k1, .ref k2, .ref k3, .int 1, .ref k5, .int 0, .int 0, .int 0, .int 0, .int 0, .int 0, .int 0, .int 0, .int 0, .int (-1), .int 0, .int 0, .int 0, .ref k19, .ref k20, .ref k21, .ref k22, .ref k23, .int 0, .ref k25, .ref k26, .ref k27, .int 0, .int 0, .ref k30, .ref k31, .int 0, .ref k33, .int 0, .int 0, .ref k36, .ref k37, .ref k38, .ref k39]), (k3, eI (ty 2) 3 (fun _ => 0))]) C hP hD hS 0 rfl rfl lay_X9 tok_X9 nmo_X9 4 (by decide) k_1549 rfl rfl rfl (nle rfl) rfl d_X9_restore_31 (fun H locs hP hD hS => ?_)
  refine lv_aload_n hx hb d_X9_restore_34 rfl (lv_at hl 0 rfl) ?_
  refine r_get (v := .int 1) C hP 0 rfl rfl lay_X9 4 (by decide) k_1549 rfl d_X9_restore_35 ?_
  refine b_if_leF C 42 d_X9_restore_38 (by decide) (by decide) ?_
  exact ret_V (w := [(h0, eO 9 [.ref k0, .ref k1, .ref k2, .ref k3, .int 1, .ref k5, .int 0, .int 0, .int 0, .int 0, .int 0, .int 0, .int 0, .int 0, .int 0, .int (-1), .int 0, .int 0, .int 0, .ref k19, .ref k20, .ref k21, .ref k22, .ref k23, .int 0, .ref k25, .ref k26, .ref k27, .int 0, .int 0, .ref k30, .ref k31, .int 0, .ref k33, .int 0, .int 0, .ref k36, .ref k37, .ref k38, .ref k39])]) C hP hD hS [0] rfl rfl ⟨(.int 0), (.int 0), (.int 0), (.int 0), (.int 0), (.int 0), (.int 0), (.int 0), (.int 0), (.int (-1)), (.int 0), (.int 0), (.int 0), (.int 0), (.int 0), (.int 0), (.int 0), (.int 0), (.int 0), rfl⟩ (by decide) (by decide) d_X9_restore_41
set_option maxHeartbeats 4000000 in
set_option maxRecDepth 100000 in
theorem m_restore2 (l : Launch) (D : va_G) (ty : Nat → ClassId) (h0 : Nat) (k0 : Nat) (k1 : Nat) (k2 : Nat) (k3 : Nat) (k5 : Nat) (k19 : Nat) (k20 : Nat) (k21 : Nat) (k22 : Nat) (k23 : Nat) (k25 : Nat) (k26 : Nat) (k27 : Nat) (k30 : Nat) (k31 : Nat) (k33 : Nat) (k36 : Nat) (k37 : Nat) (k38 : Nat) (k39 : Nat) (ta : Nat) (hta : ta < 3) : CC l D ty ⟨"PinchedBillModel", "restore", "(I)V"⟩ prog_11_method_137_code 3 none 1 25 0 0 [.ref h0, .int (nI ta)] [(h0, eO 9 [.ref k0, .ref k1, .ref k2, .ref k3, .int 0, .ref k5, .int 0, .int 0, .int 0, .int 0, .int 0, .int 0, .int 0, .int 0, .int 0, .int (-1), .int 0, .int 0, .int 0, .ref k19, .ref k20, .ref k21, .ref k22, .ref k23, .int 0, .ref k25, .ref k26, .ref k27, .int 0, .int 0, .ref k30, .ref k31, .int 0, .ref k33, .int 0, .int 0, .ref k36, .ref k37, .ref k38, .ref k39]), (k3, eI (ty 2) 3 (fun _ => 0))] (QV D ty (fun (w : va_W) => ∃ (w6 : Value) (w7 : Value) (w8 : Value) (w9 : Value) (w10 : Value) (w11 : Value) (w12 : Value) (w13 : Value) (w14 : Value) (w15 : Value) (w16 : Value) (w17 : Value) (w18 : Value) (w24 : Value) (w28 : Value) (w29 : Value) (w32 : Value) (w34 : Value) (w35 : Value), w = [(h0, eO 9 [.ref k0, .ref k1, .ref k2, .ref k3, .int 2, .ref k5, w6, w7, w8, w9, w10, w11, w12, w13, w14, w15, w16, w17, w18, .ref k19, .ref k20, .ref k21, .ref k22, .ref k23, w24, .ref k25, .ref k26, .ref k27, w28, w29, .ref k30, .ref k31, w32, .ref k33, w34, w35, .ref k36, .ref k37, .ref k38, .ref k39])])) := by
  refine CC_of (by decide) ?_
  intro p e s m below meth c A C hP hD hS
  obtain ⟨⟨hx, hb, hml, hown, hts⟩, hr, hlocks, hnm, hK, hE, hA, hZ⟩ := id C
  refine startW [.ref h0, .int (nI ta)] 3 (nle rfl) (lv := [(0, .ref h0), (1, .int (nI ta))]) rfl (fun ls hl => ?_)
  refine lv_aload_n hx hb d_X9_restore_0 rfl (lv_at hl 0 rfl) ?_
  refine lv_iload_n hx hb d_X9_restore_1 rfl (lv_at hl 1 rfl) ?_
  refine lv_i2l (v := (lN ta)) hx hb d_X9_restore_2 (nI_l (by omega)) ?_
  refine lv_lconst (v := 0) hx hb d_X9_restore_3 (by decide) ?_
  refine lv_ldc2 hx hb hown (hts _ k_2178) d_X9_restore_4 ?_
  have ct_1 : Cut [(h0, eO 9 [.ref k0, .ref k1, .ref k2, .ref k3, .int 0, .ref k5, .int 0, .int 0, .int 0, .int 0, .int 0, .int 0, .int 0, .int 0, .int 0, .int (-1), .int 0, .int 0, .int 0, .ref k19, .ref k20, .ref k21, .ref k22, .ref k23, .int 0, .ref k25, .ref k26, .ref k27, .int 0, .int 0, .ref k30, .ref k31, .int 0, .ref k33, .int 0, .int 0, .ref k36, .ref k37, .ref k38, .ref k39]), (k3, eI (ty 2) 3 (fun _ => 0))] [] [(h0, eO 9 [.ref k0, .ref k1, .ref k2, .ref k3, .int 0, .ref k5, .int 0, .int 0, .int 0, .int 0, .int 0, .int 0, .int 0, .int 0, .int 0, .int (-1), .int 0, .int 0, .int 0, .ref k19, .ref k20, .ref k21, .ref k22, .ref k23, .int 0, .ref k25, .ref k26, .ref k27, .int 0, .int 0, .ref k30, .ref k31, .int 0, .ref k33, .int 0, .int 0, .ref k36, .ref k37, .ref k38, .ref k39]), (k3, eI (ty 2) 3 (fun _ => 0))] [] [0, 1] := ⟨rfl, rfl, rfl, rfl, by decide⟩
  refine cont_I C hP hD hS ct_1 (run_S (As := [.long (lN ta), .long 0, .long 2]) (rest := [.ref h0]) C hP hD hS ct_1 (c_mwi l D ty (lN ta) 0 2) kS_PinchedBillModel_140 rfl hl.1 rfl (nle rfl) d_X9_restore_7 ⟨by decide, by decide, by decide, by decide⟩) (fun r_3 w_4 H locs hw_2 hP hD hS => ?_)
  obtain ⟨rfl, rfl⟩ := hw_2
  have hP : va_P D vwCl [(h0, eO 9 [.ref k0, .ref k1, .ref k2, .ref k3, .int 0, .ref k5, .int 0, .int 0, .int 0, .int 0, .int 0, .int 0, .int 0, .int 0, .int 0, .int (-1), .int 0, .int 0, .int 0, .ref k19, .ref k20, .ref k21, .ref k22, .ref k23, .int 0, .ref k25, .ref k26, .ref k27, .int 0, .int 0, .ref k30, .ref k31, .int 0, .ref k33, .int 0, .int 0, .ref k36, .ref k37, .ref k38, .ref k39]), (k3, eI (ty 2) 3 (fun _ => 0))] H := hP
  have hD : va_D A [(h0, eO 9 [.ref k0, .ref k1, .ref k2, .ref k3, .int 0, .ref k5, .int 0, .int 0, .int 0, .int 0, .int 0, .int 0, .int 0, .int 0, .int 0, .int (-1), .int 0, .int 0, .int 0, .ref k19, .ref k20, .ref k21, .ref k22, .ref k23, .int 0, .ref k25, .ref k26, .ref k27, .int 0, .int 0, .ref k30, .ref k31, .int 0, .ref k33, .int 0, .int 0, .ref k36, .ref k37, .ref k38, .ref k39]), (k3, eI (ty 2) 3 (fun _ => 0))] := hD
  refine topeq (z := 1) (wiN_1 (ta) 0 2 rfl rfl rfl (by omega) (by omega) (by omega)) ?_
  refine b_if_neT C 17 d_X9_restore_10 (by decide) (by decide) ?_
  refine lv_aload_n hx hb d_X9_restore_17 rfl (lv_at hl 0 rfl) ?_
  refine r_get (v := .ref k3) C hP 0 rfl rfl lay_X9 3 (by decide) k_1548 rfl d_X9_restore_18 ?_
  refine lv_iload_n hx hb d_X9_restore_21 rfl (lv_at hl 1 rfl) ?_
  refine r_zald (v := 0) C hP 1 rfl ta rfl (by omega) (by decide) rfl d_X9_restore_22 ?_
  refine b_if_neF C 30 d_X9_restore_23 (by decide) (by decide) ?_
  refine lv_iconst (v := 2) hx hb d_X9_restore_26 (by decide) ?_
  refine lv_goto (tgt := 31) hx hb d_X9_restore_27 (by decide) ?_
  refine r_put (w := [(h0, eO 9 [.ref k0, .ref k1, .ref k2, .ref k3, .int 2, .ref k5, .int 0, .int 0, .int 0, .int 0, .int 0, .int 0, .int 0, .int 0, .int 0, .int (-1), .int 0, .int 0, .int 0, .ref k19, .ref k20, .ref k21, .ref k22, .ref k23, .int 0, .ref k25, .ref k26, .ref k27, .int 0, .int 0, .ref k30, .ref k31, .int 0, .ref k33, .int 0, .int 0, .ref k36, .ref k37, .ref k38, .ref k39]), (k3, eI (ty 2) 3 (fun _ => 0))]) C hP hD hS 0 rfl rfl lay_X9 tok_X9 nmo_X9 4 (by decide) k_1549 rfl rfl rfl (nle rfl) rfl d_X9_restore_31 (fun H locs hP hD hS => ?_)
  refine lv_aload_n hx hb d_X9_restore_34 rfl (lv_at hl 0 rfl) ?_
  refine r_get (v := .int 2) C hP 0 rfl rfl lay_X9 4 (by decide) k_1549 rfl d_X9_restore_35 ?_
  refine b_if_leF C 42 d_X9_restore_38 (by decide) (by decide) ?_
  exact ret_V (w := [(h0, eO 9 [.ref k0, .ref k1, .ref k2, .ref k3, .int 2, .ref k5, .int 0, .int 0, .int 0, .int 0, .int 0, .int 0, .int 0, .int 0, .int 0, .int (-1), .int 0, .int 0, .int 0, .ref k19, .ref k20, .ref k21, .ref k22, .ref k23, .int 0, .ref k25, .ref k26, .ref k27, .int 0, .int 0, .ref k30, .ref k31, .int 0, .ref k33, .int 0, .int 0, .ref k36, .ref k37, .ref k38, .ref k39])]) C hP hD hS [0] rfl rfl ⟨(.int 0), (.int 0), (.int 0), (.int 0), (.int 0), (.int 0), (.int 0), (.int 0), (.int 0), (.int (-1)), (.int 0), (.int 0), (.int 0), (.int 0), (.int 0), (.int 0), (.int 0), (.int 0), (.int 0), rfl⟩ (by decide) (by decide) d_X9_restore_41
set_option maxHeartbeats 4000000 in
set_option maxRecDepth 100000 in
theorem m_imageF (l : Launch) (D : va_G) (ty : Nat → ClassId) (h0 : Nat) (k0 : Nat) (k1 : Nat) (k2 : Nat) (k3 : Nat) (k5 : Nat) (k19 : Nat) (k20 : Nat) (k21 : Nat) (k22 : Nat) (k23 : Nat) (k25 : Nat) (k26 : Nat) (k27 : Nat) (k30 : Nat) (k31 : Nat) (k33 : Nat) (k36 : Nat) (k37 : Nat) (k38 : Nat) (k39 : Nat) (t : Int32) (hno : ¬ (¬ t < 0 ∧ ¬ 2 < t)) : CC l D ty ⟨"PinchedBillModel", "image", "(I)V"⟩ prog_11_method_136_code 3 none 1 25 0 0 [.ref h0, .int t] [(h0, eO 9 [.ref k0, .ref k1, .ref k2, .ref k3, .int 0, .ref k5, .int 0, .int 0, .int 0, .int 0, .int 0, .int 0, .int 0, .int 0, .int 0, .int (-1), .int 0, .int 0, .int 0, .ref k19, .ref k20, .ref k21, .ref k22, .ref k23, .int 0, .ref k25, .ref k26, .ref k27, .int 0, .int 0, .ref k30, .ref k31, .int 0, .ref k33, .int 0, .int 0, .ref k36, .ref k37, .ref k38, .ref k39]), (k3, eI (ty 2) 3 (fun _ => 0))] (QV D ty (fun (w : va_W) => ∃ (w6 : Value) (w7 : Value) (w8 : Value) (w9 : Value) (w10 : Value) (w11 : Value) (w12 : Value) (w13 : Value) (w14 : Value) (w15 : Value) (w16 : Value) (w17 : Value) (w18 : Value) (w24 : Value) (w28 : Value) (w29 : Value) (w32 : Value) (w34 : Value) (w35 : Value), w = [(h0, eO 9 [.ref k0, .ref k1, .ref k2, .ref k3, .int 1, .ref k5, w6, w7, w8, w9, w10, w11, w12, w13, w14, w15, w16, w17, w18, .ref k19, .ref k20, .ref k21, .ref k22, .ref k23, w24, .ref k25, .ref k26, .ref k27, w28, w29, .ref k30, .ref k31, w32, .ref k33, w34, w35, .ref k36, .ref k37, .ref k38, .ref k39])])) := by
  refine CC_of (by decide) ?_
  intro p e s m below meth c A C hP hD hS
  obtain ⟨⟨hx, hb, hml, hown, hts⟩, hr, hlocks, hnm, hK, hE, hA, hZ⟩ := id C
  refine startW [.ref h0, .int t] 3 (nle rfl) (lv := [(0, .ref h0), (1, .int t)]) rfl (fun ls hl => ?_)
  refine lv_aload_n hx hb d_X9_image_0 rfl (lv_at hl 0 rfl) ?_
  refine lv_iload_n hx hb d_X9_image_1 rfl (lv_at hl 1 rfl) ?_
  refine lv_i2l (v := (t).toInt64) hx hb d_X9_image_2 rfl ?_
  refine lv_lconst (v := 0) hx hb d_X9_image_3 (by decide) ?_
  refine lv_ldc2 hx hb hown (hts _ k_2178) d_X9_image_4 ?_
  have ct_1 : Cut [(h0, eO 9 [.ref k0, .ref k1, .ref k2, .ref k3, .int 0, .ref k5, .int 0, .int 0, .int 0, .int 0, .int 0, .int 0, .int 0, .int 0, .int 0, .int (-1), .int 0, .int 0, .int 0, .ref k19, .ref k20, .ref k21, .ref k22, .ref k23, .int 0, .ref k25, .ref k26, .ref k27, .int 0, .int 0, .ref k30, .ref k31, .int 0, .ref k33, .int 0, .int 0, .ref k36, .ref k37, .ref k38, .ref k39]), (k3, eI (ty 2) 3 (fun _ => 0))] [] [(h0, eO 9 [.ref k0, .ref k1, .ref k2, .ref k3, .int 0, .ref k5, .int 0, .int 0, .int 0, .int 0, .int 0, .int 0, .int 0, .int 0, .int 0, .int (-1), .int 0, .int 0, .int 0, .ref k19, .ref k20, .ref k21, .ref k22, .ref k23, .int 0, .ref k25, .ref k26, .ref k27, .int 0, .int 0, .ref k30, .ref k31, .int 0, .ref k33, .int 0, .int 0, .ref k36, .ref k37, .ref k38, .ref k39]), (k3, eI (ty 2) 3 (fun _ => 0))] [] [0, 1] := ⟨rfl, rfl, rfl, rfl, by decide⟩
  refine cont_I C hP hD hS ct_1 (run_S (As := [.long (t).toInt64, .long 0, .long 2]) (rest := [.ref h0]) C hP hD hS ct_1 (c_mwi l D ty ((t).toInt64) 0 2) kS_PinchedBillModel_140 rfl hl.1 rfl (nle rfl) d_X9_image_7 ⟨by decide, by decide, by decide, by decide⟩) (fun r_3 w_4 H locs hw_2 hP hD hS => ?_)
  obtain ⟨rfl, rfl⟩ := hw_2
  have hP : va_P D vwCl [(h0, eO 9 [.ref k0, .ref k1, .ref k2, .ref k3, .int 0, .ref k5, .int 0, .int 0, .int 0, .int 0, .int 0, .int 0, .int 0, .int 0, .int 0, .int (-1), .int 0, .int 0, .int 0, .ref k19, .ref k20, .ref k21, .ref k22, .ref k23, .int 0, .ref k25, .ref k26, .ref k27, .int 0, .int 0, .ref k30, .ref k31, .int 0, .ref k33, .int 0, .int 0, .ref k36, .ref k37, .ref k38, .ref k39]), (k3, eI (ty 2) 3 (fun _ => 0))] H := hP
  have hD : va_D A [(h0, eO 9 [.ref k0, .ref k1, .ref k2, .ref k3, .int 0, .ref k5, .int 0, .int 0, .int 0, .int 0, .int 0, .int 0, .int 0, .int 0, .int 0, .int (-1), .int 0, .int 0, .int 0, .ref k19, .ref k20, .ref k21, .ref k22, .ref k23, .int 0, .ref k25, .ref k26, .ref k27, .int 0, .int 0, .ref k30, .ref k31, .int 0, .ref k33, .int 0, .int 0, .ref k36, .ref k37, .ref k38, .ref k39]), (k3, eI (ty 2) 3 (fun _ => 0))] := hD
  refine topeq (z := 0) (wiQ (n := t) (lo := 0) (hi := 2) rfl rfl rfl hno) ?_
  refine b_if_eqT C 17 d_X9_image_10 (by decide) (by decide) ?_
  refine lv_iconst (v := 1) hx hb d_X9_image_17 (by decide) ?_
  refine r_put (w := [(h0, eO 9 [.ref k0, .ref k1, .ref k2, .ref k3, .int 1, .ref k5, .int 0, .int 0, .int 0, .int 0, .int 0, .int 0, .int 0, .int 0, .int 0, .int (-1), .int 0, .int 0, .int 0, .ref k19, .ref k20, .ref k21, .ref k22, .ref k23, .int 0, .ref k25, .ref k26, .ref k27, .int 0, .int 0, .ref k30, .ref k31, .int 0, .ref k33, .int 0, .int 0, .ref k36, .ref k37, .ref k38, .ref k39]), (k3, eI (ty 2) 3 (fun _ => 0))]) C hP hD hS 0 rfl rfl lay_X9 tok_X9 nmo_X9 4 (by decide) k_1549 rfl rfl rfl (nle rfl) rfl d_X9_image_18 (fun H locs hP hD hS => ?_)
  refine lv_aload_n hx hb d_X9_image_21 rfl (lv_at hl 0 rfl) ?_
  refine r_get (v := .int 1) C hP 0 rfl rfl lay_X9 4 (by decide) k_1549 rfl d_X9_image_22 ?_
  refine b_if_leF C 29 d_X9_image_25 (by decide) (by decide) ?_
  exact ret_V (w := [(h0, eO 9 [.ref k0, .ref k1, .ref k2, .ref k3, .int 1, .ref k5, .int 0, .int 0, .int 0, .int 0, .int 0, .int 0, .int 0, .int 0, .int 0, .int (-1), .int 0, .int 0, .int 0, .ref k19, .ref k20, .ref k21, .ref k22, .ref k23, .int 0, .ref k25, .ref k26, .ref k27, .int 0, .int 0, .ref k30, .ref k31, .int 0, .ref k33, .int 0, .int 0, .ref k36, .ref k37, .ref k38, .ref k39])]) C hP hD hS [0] rfl rfl ⟨(.int 0), (.int 0), (.int 0), (.int 0), (.int 0), (.int 0), (.int 0), (.int 0), (.int 0), (.int (-1)), (.int 0), (.int 0), (.int 0), (.int 0), (.int 0), (.int 0), (.int 0), (.int 0), (.int 0), rfl⟩ (by decide) (by decide) d_X9_image_28
set_option maxHeartbeats 4000000 in
set_option maxRecDepth 100000 in
theorem m_imageT (l : Launch) (D : va_G) (ty : Nat → ClassId) (h0 : Nat) (k0 : Nat) (k1 : Nat) (k2 : Nat) (k3 : Nat) (k5 : Nat) (k19 : Nat) (k20 : Nat) (k21 : Nat) (k22 : Nat) (k23 : Nat) (k25 : Nat) (k26 : Nat) (k27 : Nat) (k30 : Nat) (k31 : Nat) (k33 : Nat) (k36 : Nat) (k37 : Nat) (k38 : Nat) (k39 : Nat) (ta : Nat) (hta : ta < 3) : CC l D ty ⟨"PinchedBillModel", "image", "(I)V"⟩ prog_11_method_136_code 3 none 1 25 0 0 [.ref h0, .int (nI ta)] [(h0, eO 9 [.ref k0, .ref k1, .ref k2, .ref k3, .int 0, .ref k5, .int 0, .int 0, .int 0, .int 0, .int 0, .int 0, .int 0, .int 0, .int 0, .int (-1), .int 0, .int 0, .int 0, .ref k19, .ref k20, .ref k21, .ref k22, .ref k23, .int 0, .ref k25, .ref k26, .ref k27, .int 0, .int 0, .ref k30, .ref k31, .int 0, .ref k33, .int 0, .int 0, .ref k36, .ref k37, .ref k38, .ref k39]), (k0, eI (ty 0) 1875 knF), (k2, eI (ty 0) 5625 (fun _ => 0)), (k3, eI (ty 2) 3 (fun _ => 0))] (QV D ty (fun (w : va_W) => ∃ (w6 : Value) (w7 : Value) (w8 : Value) (w9 : Value) (w10 : Value) (w11 : Value) (w12 : Value) (w13 : Value) (w14 : Value) (w15 : Value) (w16 : Value) (w17 : Value) (w18 : Value) (w24 : Value) (w28 : Value) (w29 : Value) (w32 : Value) (w34 : Value) (w35 : Value), w = [(h0, eO 9 [.ref k0, .ref k1, .ref k2, .ref k3, .int 0, .ref k5, w6, w7, w8, w9, w10, w11, w12, w13, w14, w15, w16, w17, w18, .ref k19, .ref k20, .ref k21, .ref k22, .ref k23, w24, .ref k25, .ref k26, .ref k27, w28, w29, .ref k30, .ref k31, w32, .ref k33, w34, w35, .ref k36, .ref k37, .ref k38, .ref k39])])) := by
  refine CC_of (by decide) ?_
  intro p e s m below meth c A C hP hD hS
  obtain ⟨⟨hx, hb, hml, hown, hts⟩, hr, hlocks, hnm, hK, hE, hA, hZ⟩ := id C
  refine startW [.ref h0, .int (nI ta)] 3 (nle rfl) (lv := [(0, .ref h0), (1, .int (nI ta))]) rfl (fun ls hl => ?_)
  refine lv_aload_n hx hb d_X9_image_0 rfl (lv_at hl 0 rfl) ?_
  refine lv_iload_n hx hb d_X9_image_1 rfl (lv_at hl 1 rfl) ?_
  refine lv_i2l (v := (lN ta)) hx hb d_X9_image_2 (nI_l (by omega)) ?_
  refine lv_lconst (v := 0) hx hb d_X9_image_3 (by decide) ?_
  refine lv_ldc2 hx hb hown (hts _ k_2178) d_X9_image_4 ?_
  have ct_1 : Cut [(h0, eO 9 [.ref k0, .ref k1, .ref k2, .ref k3, .int 0, .ref k5, .int 0, .int 0, .int 0, .int 0, .int 0, .int 0, .int 0, .int 0, .int 0, .int (-1), .int 0, .int 0, .int 0, .ref k19, .ref k20, .ref k21, .ref k22, .ref k23, .int 0, .ref k25, .ref k26, .ref k27, .int 0, .int 0, .ref k30, .ref k31, .int 0, .ref k33, .int 0, .int 0, .ref k36, .ref k37, .ref k38, .ref k39]), (k0, eI (ty 0) 1875 knF), (k2, eI (ty 0) 5625 (fun _ => 0)), (k3, eI (ty 2) 3 (fun _ => 0))] [] [(h0, eO 9 [.ref k0, .ref k1, .ref k2, .ref k3, .int 0, .ref k5, .int 0, .int 0, .int 0, .int 0, .int 0, .int 0, .int 0, .int 0, .int 0, .int (-1), .int 0, .int 0, .int 0, .ref k19, .ref k20, .ref k21, .ref k22, .ref k23, .int 0, .ref k25, .ref k26, .ref k27, .int 0, .int 0, .ref k30, .ref k31, .int 0, .ref k33, .int 0, .int 0, .ref k36, .ref k37, .ref k38, .ref k39]), (k0, eI (ty 0) 1875 knF), (k2, eI (ty 0) 5625 (fun _ => 0)), (k3, eI (ty 2) 3 (fun _ => 0))] [] [0, 1, 2, 3] := ⟨rfl, rfl, rfl, rfl, by decide⟩
  refine cont_I C hP hD hS ct_1 (run_S (As := [.long (lN ta), .long 0, .long 2]) (rest := [.ref h0]) C hP hD hS ct_1 (c_mwi l D ty (lN ta) 0 2) kS_PinchedBillModel_140 rfl hl.1 rfl (nle rfl) d_X9_image_7 ⟨by decide, by decide, by decide, by decide⟩) (fun r_3 w_4 H locs hw_2 hP hD hS => ?_)
  obtain ⟨rfl, rfl⟩ := hw_2
  have hP : va_P D vwCl [(h0, eO 9 [.ref k0, .ref k1, .ref k2, .ref k3, .int 0, .ref k5, .int 0, .int 0, .int 0, .int 0, .int 0, .int 0, .int 0, .int 0, .int 0, .int (-1), .int 0, .int 0, .int 0, .ref k19, .ref k20, .ref k21, .ref k22, .ref k23, .int 0, .ref k25, .ref k26, .ref k27, .int 0, .int 0, .ref k30, .ref k31, .int 0, .ref k33, .int 0, .int 0, .ref k36, .ref k37, .ref k38, .ref k39]), (k0, eI (ty 0) 1875 knF), (k2, eI (ty 0) 5625 (fun _ => 0)), (k3, eI (ty 2) 3 (fun _ => 0))] H := hP
  have hD : va_D A [(h0, eO 9 [.ref k0, .ref k1, .ref k2, .ref k3, .int 0, .ref k5, .int 0, .int 0, .int 0, .int 0, .int 0, .int 0, .int 0, .int 0, .int 0, .int (-1), .int 0, .int 0, .int 0, .ref k19, .ref k20, .ref k21, .ref k22, .ref k23, .int 0, .ref k25, .ref k26, .ref k27, .int 0, .int 0, .ref k30, .ref k31, .int 0, .ref k33, .int 0, .int 0, .ref k36, .ref k37, .ref k38, .ref k39]), (k0, eI (ty 0) 1875 knF), (k2, eI (ty 0) 5625 (fun _ => 0)), (k3, eI (ty 2) 3 (fun _ => 0))] := hD
  refine topeq (z := 1) (wiN_1 (ta) 0 2 rfl rfl rfl (by omega) (by omega) (by omega)) ?_
  refine b_if_eqF C 17 d_X9_image_10 (by decide) (by decide) ?_
  refine lv_iconst (v := 0) hx hb d_X9_image_13 (by decide) ?_
  refine lv_goto (tgt := 18) hx hb d_X9_image_14 (by decide) ?_
  refine r_put (w := [(h0, eO 9 [.ref k0, .ref k1, .ref k2, .ref k3, .int 0, .ref k5, .int 0, .int 0, .int 0, .int 0, .int 0, .int 0, .int 0, .int 0, .int 0, .int (-1), .int 0, .int 0, .int 0, .ref k19, .ref k20, .ref k21, .ref k22, .ref k23, .int 0, .ref k25, .ref k26, .ref k27, .int 0, .int 0, .ref k30, .ref k31, .int 0, .ref k33, .int 0, .int 0, .ref k36, .ref k37, .ref k38, .ref k39]), (k0, eI (ty 0) 1875 knF), (k2, eI (ty 0) 5625 (fun _ => 0)), (k3, eI (ty 2) 3 (fun _ => 0))]) C hP hD hS 0 rfl rfl lay_X9 tok_X9 nmo_X9 4 (by decide) k_1549 rfl rfl rfl (nle rfl) rfl d_X9_image_18 (fun H locs hP hD hS => ?_)
  refine lv_aload_n hx hb d_X9_image_21 rfl (lv_at hl 0 rfl) ?_
  refine r_get (v := .int 0) C hP 0 rfl rfl lay_X9 4 (by decide) k_1549 rfl d_X9_image_22 ?_
  refine b_if_leT C 29 d_X9_image_25 (by decide) (by decide) ?_
  refine lv_aload_n hx hb d_X9_image_29 rfl (lv_at hl 0 rfl) ?_
  refine r_get (v := .ref k3) C hP 0 rfl rfl lay_X9 3 (by decide) k_1548 rfl d_X9_image_30 ?_
  refine lv_iload_n hx hb d_X9_image_33 rfl (lv_at hl 1 rfl) ?_
  refine lv_iconst (v := 1) hx hb d_X9_image_34 (by decide) ?_
  refine r_zast (w := [(h0, eO 9 [.ref k0, .ref k1, .ref k2, .ref k3, .int 0, .ref k5, .int 0, .int 0, .int 0, .int 0, .int 0, .int 0, .int 0, .int 0, .int 0, .int (-1), .int 0, .int 0, .int 0, .ref k19, .ref k20, .ref k21, .ref k22, .ref k23, .int 0, .ref k25, .ref k26, .ref k27, .int 0, .int 0, .ref k30, .ref k31, .int 0, .ref k33, .int 0, .int 0, .ref k36, .ref k37, .ref k38, .ref k39]), (k0, eI (ty 0) 1875 knF), (k2, eI (ty 0) 5625 (fun _ => 0)), (k3, eI (ty 2) 3 (upd (fun _ => 0) ta 1))]) C hP hD hS 3 rfl ta rfl (by omega) (by decide) (fun x h => by rw [h]; rfl) rfl d_X9_image_35 (fun H locs hP hD hS => ?_)
  refine lv_iconst (v := 0) hx hb d_X9_image_36 (by decide) ?_
  refine lv_istore_n (lv' := [(2, .int 0), (0, .ref h0), (1, .int (nI ta))]) hx hb d_X9_image_37 rfl hl (by decide) rfl (fun ls hl => ?_)
  refine loopW2 (fun (i : Nat) (g : Nat → Int32) (H : Heap) (locs : List Loc) (ls : Array Slot) => (i ≤ 1875) ∧ va_P D vwCl [(h0, eO 9 [.ref k0, .ref k1, .ref k2, .ref k3, .int 0, .ref k5, .int 0, .int 0, .int 0, .int 0, .int 0, .int 0, .int 0, .int 0, .int 0, .int (-1), .int 0, .int 0, .int 0, .ref k19, .ref k20, .ref k21, .ref k22, .ref k23, .int 0, .ref k25, .ref k26, .ref k27, .int 0, .int 0, .ref k30, .ref k31, .int 0, .ref k33, .int 0, .int 0, .ref k36, .ref k37, .ref k38, .ref k39]), (k0, eI (ty 0) 1875 knF), (k2, eI (ty 0) 5625 g), (k3, eI (ty 2) 3 (upd (fun _ => 0) ta 1))] H ∧ va_D A [(h0, eO 9 [.ref k0, .ref k1, .ref k2, .ref k3, .int 0, .ref k5, .int 0, .int 0, .int 0, .int 0, .int 0, .int 0, .int 0, .int 0, .int 0, .int (-1), .int 0, .int 0, .int 0, .ref k19, .ref k20, .ref k21, .ref k22, .ref k23, .int 0, .ref k25, .ref k26, .ref k27, .int 0, .int 0, .ref k30, .ref k31, .int 0, .ref k33, .int 0, .int 0, .ref k36, .ref k37, .ref k38, .ref k39]), (k0, eI (ty 0) 1875 knF), (k2, eI (ty 0) 5625 g), (k3, eI (ty 2) 3 (upd (fun _ => 0) ta 1))] ∧ va_S A s.heap H locs ∧ lv_has ls 3 [(2, .int (nI i)), (0, .ref h0), (1, .int (nI ta))]) (fun (i : Nat) (g : Nat → Int32) => 1875 - i) ?_ 0 (fun _ => 0) ⟨(by omega), hP, hD, hS, lv_sub hl [0, 1, 2] rfl⟩
  intro i g H locs ls hI ih_5
  obtain ⟨hi, hP, hD, hS, hl⟩ := hI
  refine lv_iload_n hx hb d_X9_image_38 rfl (lv_at hl 0 rfl) ?_
  refine lv_sipush (v := 1875) hx hb d_X9_image_39 (by decide) ?_
  refine lv_icmp_ge (tgt := 69) hx hb d_X9_image_42 (by decide) (fun hc_6 => ?_) (fun hc_6 => ?_)
  · have hc_6 := un_le 1875 i rfl rfl (by omega) (by omega) hc_6
    exact ret_V (w := [(h0, eO 9 [.ref k0, .ref k1, .ref k2, .ref k3, .int 0, .ref k5, .int 0, .int 0, .int 0, .int 0, .int 0, .int 0, .int 0, .int 0, .int 0, .int (-1), .int 0, .int 0, .int 0, .ref k19, .ref k20, .ref k21, .ref k22, .ref k23, .int 0, .ref k25, .ref k26, .ref k27, .int 0, .int 0, .ref k30, .ref k31, .int 0, .ref k33, .int 0, .int 0, .ref k36, .ref k37, .ref k38, .ref k39])]) C hP hD hS [0] rfl rfl ⟨(.int 0), (.int 0), (.int 0), (.int 0), (.int 0), (.int 0), (.int 0), (.int 0), (.int 0), (.int (-1)), (.int 0), (.int 0), (.int 0), (.int 0), (.int 0), (.int 0), (.int 0), (.int 0), (.int 0), rfl⟩ (by decide) (by decide) d_X9_image_69
  · have hc_6 := un_nle 1875 i rfl rfl (by omega) (by omega) hc_6
    refine lv_aload_n hx hb d_X9_image_45 rfl (lv_at hl 1 rfl) ?_
    refine r_get (v := .ref k2) C hP 0 rfl rfl lay_X9 2 (by decide) k_1547 rfl d_X9_image_46 ?_
    refine lv_sipush (v := 1875) hx hb d_X9_image_49 (by decide) ?_
    refine lv_iload_n hx hb d_X9_image_52 rfl (lv_at hl 2 rfl) ?_
    refine r_imul (z := (nI (1875 * ta))) C d_X9_image_53 (a_mul 1875 ta (1875 * ta) rfl rfl (by omega)) ?_
    refine lv_iload_n hx hb d_X9_image_54 rfl (lv_at hl 0 rfl) ?_
    refine r_iadd (z := (nI ((1875 * ta) + i))) C d_X9_image_55 (a_add (1875 * ta) i ((1875 * ta) + i) rfl rfl (by omega)) ?_
    refine lv_aload_n hx hb d_X9_image_56 rfl (lv_at hl 1 rfl) ?_
    refine r_get (v := .ref k0) C hP 0 rfl rfl lay_X9 0 (by decide) k_1545 rfl d_X9_image_57 ?_
    refine lv_iload_n hx hb d_X9_image_60 rfl (lv_at hl 0 rfl) ?_
    refine r_iald (v := (knF i)) C hP 1 rfl i rfl (by omega) (by decide) rfl d_X9_image_61 ?_
    refine r_iast (w := [(h0, eO 9 [.ref k0, .ref k1, .ref k2, .ref k3, .int 0, .ref k5, .int 0, .int 0, .int 0, .int 0, .int 0, .int 0, .int 0, .int 0, .int 0, .int (-1), .int 0, .int 0, .int 0, .ref k19, .ref k20, .ref k21, .ref k22, .ref k23, .int 0, .ref k25, .ref k26, .ref k27, .int 0, .int 0, .ref k30, .ref k31, .int 0, .ref k33, .int 0, .int 0, .ref k36, .ref k37, .ref k38, .ref k39]), (k0, eI (ty 0) 1875 knF), (k2, eI (ty 0) 5625 (upd g ((1875 * ta) + i) (knF i))), (k3, eI (ty 2) 3 (upd (fun _ => 0) ta 1))]) C hP hD hS 2 rfl ((1875 * ta) + i) rfl (by omega) (by decide) rfl d_X9_image_62 (fun H locs hP hD hS => ?_)
    refine lv_iinc (v := (nI (i + 1))) (lv' := [(2, .int (nI (i + 1))), (0, .ref h0), (1, .int (nI ta))]) (k := 0) hx hb d_X9_image_63 hl rfl (a_inc i 1 (i + 1) rfl rfl) (by decide) rfl (fun ls hl => ?_)
    refine lv_goto (tgt := 38) hx hb d_X9_image_66 (by decide) ?_
    exact ih_5 (i + 1) (upd g ((1875 * ta) + i) (knF i)) _ _ _ (by omega) ⟨(by omega), sub_P hP (is := [0, 1, 2, 3]) rfl, hD.sub [0, 1, 2, 3] (by decide) rfl, hS, lv_sub hl [0, 1, 2] rfl⟩
set_option maxHeartbeats 4000000 in
set_option maxRecDepth 100000 in
theorem m_tray1 (l : Launch) (D : va_G) (ty : Nat → ClassId) (h0 : Nat) (k0 : Nat) (k1 : Nat) (k2 : Nat) (k3 : Nat) (k5 : Nat) (k19 : Nat) (k20 : Nat) (k21 : Nat) (k22 : Nat) (k23 : Nat) (k25 : Nat) (k26 : Nat) (k27 : Nat) (k30 : Nat) (k31 : Nat) (k33 : Nat) (k36 : Nat) (k37 : Nat) (k38 : Nat) (k39 : Nat) (t : Int32) (so : Int32) (ma : Int32) (hno : ¬ (¬ t < 0 ∧ ¬ 3 < t)) : CC l D ty ⟨"PinchedBillModel", "tray", "(III)V"⟩ prog_11_method_132_code 5 none 2 45 0 0 [.ref h0, .int t, .int so, .int ma] [(h0, eO 9 [.ref k0, .ref k1, .ref k2, .ref k3, .int 0, .ref k5, .int 0, .int 0, .int 0, .int 0, .int 0, .int 0, .int 0, .int 0, .int 0, .int (-1), .int 0, .int 0, .int 0, .ref k19, .ref k20, .ref k21, .ref k22, .ref k23, .int 0, .ref k25, .ref k26, .ref k27, .int 0, .int 0, .ref k30, .ref k31, .int 0, .ref k33, .int 0, .int 0, .ref k36, .ref k37, .ref k38, .ref k39]), (k37, eI (ty 0) 4 tsF)] (QV D ty (fun (w : va_W) => ∃ (w6 : Value) (w7 : Value) (w8 : Value) (w9 : Value) (w10 : Value) (w11 : Value) (w12 : Value) (w13 : Value) (w14 : Value) (w15 : Value) (w16 : Value) (w17 : Value) (w18 : Value) (w24 : Value) (w28 : Value) (w29 : Value) (w32 : Value) (w34 : Value) (w35 : Value), w = [(h0, eO 9 [.ref k0, .ref k1, .ref k2, .ref k3, .int 1, .ref k5, w6, w7, w8, w9, w10, w11, w12, w13, w14, w15, w16, w17, w18, .ref k19, .ref k20, .ref k21, .ref k22, .ref k23, w24, .ref k25, .ref k26, .ref k27, w28, w29, .ref k30, .ref k31, w32, .ref k33, w34, w35, .ref k36, .ref k37, .ref k38, .ref k39])])) := by
  refine CC_of (by decide) ?_
  intro p e s m below meth c A C hP hD hS
  obtain ⟨⟨hx, hb, hml, hown, hts⟩, hr, hlocks, hnm, hK, hE, hA, hZ⟩ := id C
  refine startW [.ref h0, .int t, .int so, .int ma] 5 (nle rfl) (lv := [(0, .ref h0), (1, .int t), (2, .int so), (3, .int ma)]) rfl (fun ls hl => ?_)
  refine lv_aload_n hx hb d_X9_tray_0 rfl (lv_at hl 0 rfl) ?_
  refine lv_iload_n hx hb d_X9_tray_1 rfl (lv_at hl 1 rfl) ?_
  have ct_1 : Cut [(h0, eO 9 [.ref k0, .ref k1, .ref k2, .ref k3, .int 0, .ref k5, .int 0, .int 0, .int 0, .int 0, .int 0, .int 0, .int 0, .int 0, .int 0, .int (-1), .int 0, .int 0, .int 0, .ref k19, .ref k20, .ref k21, .ref k22, .ref k23, .int 0, .ref k25, .ref k26, .ref k27, .int 0, .int 0, .ref k30, .ref k31, .int 0, .ref k33, .int 0, .int 0, .ref k36, .ref k37, .ref k38, .ref k39]), (k37, eI (ty 0) 4 tsF)] [] [(h0, eO 9 [.ref k0, .ref k1, .ref k2, .ref k3, .int 0, .ref k5, .int 0, .int 0, .int 0, .int 0, .int 0, .int 0, .int 0, .int 0, .int 0, .int (-1), .int 0, .int 0, .int 0, .ref k19, .ref k20, .ref k21, .ref k22, .ref k23, .int 0, .ref k25, .ref k26, .ref k27, .int 0, .int 0, .ref k30, .ref k31, .int 0, .ref k33, .int 0, .int 0, .ref k36, .ref k37, .ref k38, .ref k39]), (k37, eI (ty 0) 4 tsF)] [] [0, 1] := ⟨rfl, rfl, rfl, rfl, by decide⟩
  refine cont_I C hP hD hS ct_1 (run_S (As := [.int t]) (rest := [.ref h0]) C hP hD hS ct_1 (c_misTF l D ty t hno) kS_PinchedBillModel_352 rfl hl.1 rfl (nle rfl) d_X9_tray_2 ⟨by decide, by decide, by decide, by decide⟩) (fun r_3 w_4 H locs hw_2 hP hD hS => ?_)
  obtain ⟨rfl, rfl⟩ := hw_2
  have hP : va_P D vwCl [(h0, eO 9 [.ref k0, .ref k1, .ref k2, .ref k3, .int 0, .ref k5, .int 0, .int 0, .int 0, .int 0, .int 0, .int 0, .int 0, .int 0, .int 0, .int (-1), .int 0, .int 0, .int 0, .ref k19, .ref k20, .ref k21, .ref k22, .ref k23, .int 0, .ref k25, .ref k26, .ref k27, .int 0, .int 0, .ref k30, .ref k31, .int 0, .ref k33, .int 0, .int 0, .ref k36, .ref k37, .ref k38, .ref k39]), (k37, eI (ty 0) 4 tsF)] H := hP
  have hD : va_D A [(h0, eO 9 [.ref k0, .ref k1, .ref k2, .ref k3, .int 0, .ref k5, .int 0, .int 0, .int 0, .int 0, .int 0, .int 0, .int 0, .int 0, .int 0, .int (-1), .int 0, .int 0, .int 0, .ref k19, .ref k20, .ref k21, .ref k22, .ref k23, .int 0, .ref k25, .ref k26, .ref k27, .int 0, .int 0, .ref k30, .ref k31, .int 0, .ref k33, .int 0, .int 0, .ref k36, .ref k37, .ref k38, .ref k39]), (k37, eI (ty 0) 4 tsF)] := hD
  refine b_if_neF C 12 d_X9_tray_5 (by decide) (by decide) ?_
  refine lv_iconst (v := 1) hx hb d_X9_tray_8 (by decide) ?_
  refine lv_goto (tgt := 41) hx hb d_X9_tray_9 (by decide) ?_
  refine r_put (w := [(h0, eO 9 [.ref k0, .ref k1, .ref k2, .ref k3, .int 1, .ref k5, .int 0, .int 0, .int 0, .int 0, .int 0, .int 0, .int 0, .int 0, .int 0, .int (-1), .int 0, .int 0, .int 0, .ref k19, .ref k20, .ref k21, .ref k22, .ref k23, .int 0, .ref k25, .ref k26, .ref k27, .int 0, .int 0, .ref k30, .ref k31, .int 0, .ref k33, .int 0, .int 0, .ref k36, .ref k37, .ref k38, .ref k39]), (k37, eI (ty 0) 4 tsF)]) C hP hD hS 0 rfl rfl lay_X9 tok_X9 nmo_X9 4 (by decide) k_1549 rfl rfl rfl (nle rfl) rfl d_X9_tray_41 (fun H locs hP hD hS => ?_)
  refine lv_aload_n hx hb d_X9_tray_44 rfl (lv_at hl 0 rfl) ?_
  refine r_get (v := .int 1) C hP 0 rfl rfl lay_X9 4 (by decide) k_1549 rfl d_X9_tray_45 ?_
  refine b_if_leF C 52 d_X9_tray_48 (by decide) (by decide) ?_
  exact ret_V (w := [(h0, eO 9 [.ref k0, .ref k1, .ref k2, .ref k3, .int 1, .ref k5, .int 0, .int 0, .int 0, .int 0, .int 0, .int 0, .int 0, .int 0, .int 0, .int (-1), .int 0, .int 0, .int 0, .ref k19, .ref k20, .ref k21, .ref k22, .ref k23, .int 0, .ref k25, .ref k26, .ref k27, .int 0, .int 0, .ref k30, .ref k31, .int 0, .ref k33, .int 0, .int 0, .ref k36, .ref k37, .ref k38, .ref k39])]) C hP hD hS [0] rfl rfl ⟨(.int 0), (.int 0), (.int 0), (.int 0), (.int 0), (.int 0), (.int 0), (.int 0), (.int 0), (.int (-1)), (.int 0), (.int 0), (.int 0), (.int 0), (.int 0), (.int 0), (.int 0), (.int 0), (.int 0), rfl⟩ (by decide) (by decide) d_X9_tray_51
set_option maxHeartbeats 4000000 in
set_option maxRecDepth 100000 in
theorem m_tray2 (l : Launch) (D : va_G) (ty : Nat → ClassId) (h0 : Nat) (k0 : Nat) (k1 : Nat) (k2 : Nat) (k3 : Nat) (k5 : Nat) (k19 : Nat) (k20 : Nat) (k21 : Nat) (k22 : Nat) (k23 : Nat) (k25 : Nat) (k26 : Nat) (k27 : Nat) (k30 : Nat) (k31 : Nat) (k33 : Nat) (k36 : Nat) (k37 : Nat) (k38 : Nat) (k39 : Nat) (ta : Nat) (so : Int32) (ma : Int32) (hta : ta < 4) (hnp : ¬ ((¬ so < 0 ∧ ¬ 3 < so) ∧ (¬ ma < 0 ∧ ¬ 30 < ma))) : CC l D ty ⟨"PinchedBillModel", "tray", "(III)V"⟩ prog_11_method_132_code 5 none 2 45 0 0 [.ref h0, .int (nI ta), .int so, .int ma] [(h0, eO 9 [.ref k0, .ref k1, .ref k2, .ref k3, .int 0, .ref k5, .int 0, .int 0, .int 0, .int 0, .int 0, .int 0, .int 0, .int 0, .int 0, .int (-1), .int 0, .int 0, .int 0, .ref k19, .ref k20, .ref k21, .ref k22, .ref k23, .int 0, .ref k25, .ref k26, .ref k27, .int 0, .int 0, .ref k30, .ref k31, .int 0, .ref k33, .int 0, .int 0, .ref k36, .ref k37, .ref k38, .ref k39]), (k37, eI (ty 0) 4 tsF)] (QV D ty (fun (w : va_W) => ∃ (w6 : Value) (w7 : Value) (w8 : Value) (w9 : Value) (w10 : Value) (w11 : Value) (w12 : Value) (w13 : Value) (w14 : Value) (w15 : Value) (w16 : Value) (w17 : Value) (w18 : Value) (w24 : Value) (w28 : Value) (w29 : Value) (w32 : Value) (w34 : Value) (w35 : Value), w = [(h0, eO 9 [.ref k0, .ref k1, .ref k2, .ref k3, .int 2, .ref k5, w6, w7, w8, w9, w10, w11, w12, w13, w14, w15, w16, w17, w18, .ref k19, .ref k20, .ref k21, .ref k22, .ref k23, w24, .ref k25, .ref k26, .ref k27, w28, w29, .ref k30, .ref k31, w32, .ref k33, w34, w35, .ref k36, .ref k37, .ref k38, .ref k39])])) := by
  refine CC_of (by decide) ?_
  intro p e s m below meth c A C hP hD hS
  obtain ⟨⟨hx, hb, hml, hown, hts⟩, hr, hlocks, hnm, hK, hE, hA, hZ⟩ := id C
  refine startW [.ref h0, .int (nI ta), .int so, .int ma] 5 (nle rfl) (lv := [(0, .ref h0), (1, .int (nI ta)), (2, .int so), (3, .int ma)]) rfl (fun ls hl => ?_)
  by_cases hq_1 : ¬ so < 0 ∧ ¬ 3 < so
  · have hma9 : ¬ (¬ ma < 0 ∧ ¬ 30 < ma) := fun h9 => hnp ⟨hq_1, h9⟩
    have hgo9 := trivial
    refine lv_aload_n hx hb d_X9_tray_0 rfl (lv_at hl 0 rfl) ?_
    refine lv_iload_n hx hb d_X9_tray_1 rfl (lv_at hl 1 rfl) ?_
    have ct_2 : Cut [(h0, eO 9 [.ref k0, .ref k1, .ref k2, .ref k3, .int 0, .ref k5, .int 0, .int 0, .int 0, .int 0, .int 0, .int 0, .int 0, .int 0, .int 0, .int (-1), .int 0, .int 0, .int 0, .ref k19, .ref k20, .ref k21, .ref k22, .ref k23, .int 0, .ref k25, .ref k26, .ref k27, .int 0, .int 0, .ref k30, .ref k31, .int 0, .ref k33, .int 0, .int 0, .ref k36, .ref k37, .ref k38, .ref k39]), (k37, eI (ty 0) 4 tsF)] [] [(h0, eO 9 [.ref k0, .ref k1, .ref k2, .ref k3, .int 0, .ref k5, .int 0, .int 0, .int 0, .int 0, .int 0, .int 0, .int 0, .int 0, .int 0, .int (-1), .int 0, .int 0, .int 0, .ref k19, .ref k20, .ref k21, .ref k22, .ref k23, .int 0, .ref k25, .ref k26, .ref k27, .int 0, .int 0, .ref k30, .ref k31, .int 0, .ref k33, .int 0, .int 0, .ref k36, .ref k37, .ref k38, .ref k39]), (k37, eI (ty 0) 4 tsF)] [] [0, 1] := ⟨rfl, rfl, rfl, rfl, by decide⟩
    refine cont_I C hP hD hS ct_2 (run_S (As := [.int (nI ta)]) (rest := [.ref h0]) C hP hD hS ct_2 (c_misTT l D ty ta hta) kS_PinchedBillModel_352 rfl hl.1 rfl (nle rfl) d_X9_tray_2 ⟨by decide, by decide, by decide, by decide⟩) (fun r_4 w_5 H locs hw_3 hP hD hS => ?_)
    obtain ⟨rfl, rfl⟩ := hw_3
    have hP : va_P D vwCl [(h0, eO 9 [.ref k0, .ref k1, .ref k2, .ref k3, .int 0, .ref k5, .int 0, .int 0, .int 0, .int 0, .int 0, .int 0, .int 0, .int 0, .int 0, .int (-1), .int 0, .int 0, .int 0, .ref k19, .ref k20, .ref k21, .ref k22, .ref k23, .int 0, .ref k25, .ref k26, .ref k27, .int 0, .int 0, .ref k30, .ref k31, .int 0, .ref k33, .int 0, .int 0, .ref k36, .ref k37, .ref k38, .ref k39]), (k37, eI (ty 0) 4 tsF)] H := hP
    have hD : va_D A [(h0, eO 9 [.ref k0, .ref k1, .ref k2, .ref k3, .int 0, .ref k5, .int 0, .int 0, .int 0, .int 0, .int 0, .int 0, .int 0, .int 0, .int 0, .int (-1), .int 0, .int 0, .int 0, .ref k19, .ref k20, .ref k21, .ref k22, .ref k23, .int 0, .ref k25, .ref k26, .ref k27, .int 0, .int 0, .ref k30, .ref k31, .int 0, .ref k33, .int 0, .int 0, .ref k36, .ref k37, .ref k38, .ref k39]), (k37, eI (ty 0) 4 tsF)] := hD
    refine b_if_neT C 12 d_X9_tray_5 (by decide) (by decide) ?_
    refine lv_iload_n hx hb d_X9_tray_12 rfl (lv_at hl 2 rfl) ?_
    refine lv_i2l (v := (so).toInt64) hx hb d_X9_tray_13 rfl ?_
    refine lv_lconst (v := 0) hx hb d_X9_tray_14 (by decide) ?_
    refine lv_ldc2 hx hb hown (hts _ k_1912) d_X9_tray_15 ?_
    have ct_6 : Cut [(h0, eO 9 [.ref k0, .ref k1, .ref k2, .ref k3, .int 0, .ref k5, .int 0, .int 0, .int 0, .int 0, .int 0, .int 0, .int 0, .int 0, .int 0, .int (-1), .int 0, .int 0, .int 0, .ref k19, .ref k20, .ref k21, .ref k22, .ref k23, .int 0, .ref k25, .ref k26, .ref k27, .int 0, .int 0, .ref k30, .ref k31, .int 0, .ref k33, .int 0, .int 0, .ref k36, .ref k37, .ref k38, .ref k39]), (k37, eI (ty 0) 4 tsF)] [] [(h0, eO 9 [.ref k0, .ref k1, .ref k2, .ref k3, .int 0, .ref k5, .int 0, .int 0, .int 0, .int 0, .int 0, .int 0, .int 0, .int 0, .int 0, .int (-1), .int 0, .int 0, .int 0, .ref k19, .ref k20, .ref k21, .ref k22, .ref k23, .int 0, .ref k25, .ref k26, .ref k27, .int 0, .int 0, .ref k30, .ref k31, .int 0, .ref k33, .int 0, .int 0, .ref k36, .ref k37, .ref k38, .ref k39]), (k37, eI (ty 0) 4 tsF)] [] [0, 1] := ⟨rfl, rfl, rfl, rfl, by decide⟩
    refine cont_I C hP hD hS ct_6 (run_S (As := [.long (so).toInt64, .long 0, .long 3]) (rest := [.ref h0]) C hP hD hS ct_6 (c_mwi l D ty ((so).toInt64) 0 3) kS_PinchedBillModel_140 rfl hl.1 rfl (nle rfl) d_X9_tray_18 ⟨by decide, by decide, by decide, by decide⟩) (fun r_8 w_9 H locs hw_7 hP hD hS => ?_)
    obtain ⟨rfl, rfl⟩ := hw_7
    have hP : va_P D vwCl [(h0, eO 9 [.ref k0, .ref k1, .ref k2, .ref k3, .int 0, .ref k5, .int 0, .int 0, .int 0, .int 0, .int 0, .int 0, .int 0, .int 0, .int 0, .int (-1), .int 0, .int 0, .int 0, .ref k19, .ref k20, .ref k21, .ref k22, .ref k23, .int 0, .ref k25, .ref k26, .ref k27, .int 0, .int 0, .ref k30, .ref k31, .int 0, .ref k33, .int 0, .int 0, .ref k36, .ref k37, .ref k38, .ref k39]), (k37, eI (ty 0) 4 tsF)] H := hP
    have hD : va_D A [(h0, eO 9 [.ref k0, .ref k1, .ref k2, .ref k3, .int 0, .ref k5, .int 0, .int 0, .int 0, .int 0, .int 0, .int 0, .int 0, .int 0, .int 0, .int (-1), .int 0, .int 0, .int 0, .ref k19, .ref k20, .ref k21, .ref k22, .ref k23, .int 0, .ref k25, .ref k26, .ref k27, .int 0, .int 0, .ref k30, .ref k31, .int 0, .ref k33, .int 0, .int 0, .ref k36, .ref k37, .ref k38, .ref k39]), (k37, eI (ty 0) 4 tsF)] := hD
    refine topeq (z := 1) (wiP (n := so) (lo := 0) (hi := 3) rfl rfl rfl hq_1) ?_
    refine b_if_eqF C 36 d_X9_tray_21 (by decide) (by decide) ?_
    refine lv_iload_n hx hb d_X9_tray_24 rfl (lv_at hl 3 rfl) ?_
    refine lv_i2l (v := (ma).toInt64) hx hb d_X9_tray_25 rfl ?_
    refine lv_lconst (v := 0) hx hb d_X9_tray_26 (by decide) ?_
    refine lv_ldc2 hx hb hown (hts _ k_1942) d_X9_tray_27 ?_
    have ct_10 : Cut [(h0, eO 9 [.ref k0, .ref k1, .ref k2, .ref k3, .int 0, .ref k5, .int 0, .int 0, .int 0, .int 0, .int 0, .int 0, .int 0, .int 0, .int 0, .int (-1), .int 0, .int 0, .int 0, .ref k19, .ref k20, .ref k21, .ref k22, .ref k23, .int 0, .ref k25, .ref k26, .ref k27, .int 0, .int 0, .ref k30, .ref k31, .int 0, .ref k33, .int 0, .int 0, .ref k36, .ref k37, .ref k38, .ref k39]), (k37, eI (ty 0) 4 tsF)] [] [(h0, eO 9 [.ref k0, .ref k1, .ref k2, .ref k3, .int 0, .ref k5, .int 0, .int 0, .int 0, .int 0, .int 0, .int 0, .int 0, .int 0, .int 0, .int (-1), .int 0, .int 0, .int 0, .ref k19, .ref k20, .ref k21, .ref k22, .ref k23, .int 0, .ref k25, .ref k26, .ref k27, .int 0, .int 0, .ref k30, .ref k31, .int 0, .ref k33, .int 0, .int 0, .ref k36, .ref k37, .ref k38, .ref k39]), (k37, eI (ty 0) 4 tsF)] [] [0, 1] := ⟨rfl, rfl, rfl, rfl, by decide⟩
    refine cont_I C hP hD hS ct_10 (run_S (As := [.long (ma).toInt64, .long 0, .long 30]) (rest := [.ref h0]) C hP hD hS ct_10 (c_mwi l D ty ((ma).toInt64) 0 30) kS_PinchedBillModel_140 rfl hl.1 rfl (nle rfl) d_X9_tray_30 ⟨by decide, by decide, by decide, by decide⟩) (fun r_12 w_13 H locs hw_11 hP hD hS => ?_)
    obtain ⟨rfl, rfl⟩ := hw_11
    have hP : va_P D vwCl [(h0, eO 9 [.ref k0, .ref k1, .ref k2, .ref k3, .int 0, .ref k5, .int 0, .int 0, .int 0, .int 0, .int 0, .int 0, .int 0, .int 0, .int 0, .int (-1), .int 0, .int 0, .int 0, .ref k19, .ref k20, .ref k21, .ref k22, .ref k23, .int 0, .ref k25, .ref k26, .ref k27, .int 0, .int 0, .ref k30, .ref k31, .int 0, .ref k33, .int 0, .int 0, .ref k36, .ref k37, .ref k38, .ref k39]), (k37, eI (ty 0) 4 tsF)] H := hP
    have hD : va_D A [(h0, eO 9 [.ref k0, .ref k1, .ref k2, .ref k3, .int 0, .ref k5, .int 0, .int 0, .int 0, .int 0, .int 0, .int 0, .int 0, .int 0, .int 0, .int (-1), .int 0, .int 0, .int 0, .ref k19, .ref k20, .ref k21, .ref k22, .ref k23, .int 0, .ref k25, .ref k26, .ref k27, .int 0, .int 0, .ref k30, .ref k31, .int 0, .ref k33, .int 0, .int 0, .ref k36, .ref k37, .ref k38, .ref k39]), (k37, eI (ty 0) 4 tsF)] := hD
    refine topeq (z := 0) (wiQ (n := ma) (lo := 0) (hi := 30) rfl rfl rfl hma9) ?_
    refine b_if_neF C 40 d_X9_tray_33 (by decide) (by decide) ?_
    refine lv_iconst (v := 2) hx hb d_X9_tray_36 (by decide) ?_
    refine lv_goto (tgt := 41) hx hb d_X9_tray_37 (by decide) ?_
    refine r_put (w := [(h0, eO 9 [.ref k0, .ref k1, .ref k2, .ref k3, .int 2, .ref k5, .int 0, .int 0, .int 0, .int 0, .int 0, .int 0, .int 0, .int 0, .int 0, .int (-1), .int 0, .int 0, .int 0, .ref k19, .ref k20, .ref k21, .ref k22, .ref k23, .int 0, .ref k25, .ref k26, .ref k27, .int 0, .int 0, .ref k30, .ref k31, .int 0, .ref k33, .int 0, .int 0, .ref k36, .ref k37, .ref k38, .ref k39]), (k37, eI (ty 0) 4 tsF)]) C hP hD hS 0 rfl rfl lay_X9 tok_X9 nmo_X9 4 (by decide) k_1549 rfl rfl rfl (nle rfl) rfl d_X9_tray_41 (fun H locs hP hD hS => ?_)
    refine lv_aload_n hx hb d_X9_tray_44 rfl (lv_at hl 0 rfl) ?_
    refine r_get (v := .int 2) C hP 0 rfl rfl lay_X9 4 (by decide) k_1549 rfl d_X9_tray_45 ?_
    refine b_if_leF C 52 d_X9_tray_48 (by decide) (by decide) ?_
    exact ret_V (w := [(h0, eO 9 [.ref k0, .ref k1, .ref k2, .ref k3, .int 2, .ref k5, .int 0, .int 0, .int 0, .int 0, .int 0, .int 0, .int 0, .int 0, .int 0, .int (-1), .int 0, .int 0, .int 0, .ref k19, .ref k20, .ref k21, .ref k22, .ref k23, .int 0, .ref k25, .ref k26, .ref k27, .int 0, .int 0, .ref k30, .ref k31, .int 0, .ref k33, .int 0, .int 0, .ref k36, .ref k37, .ref k38, .ref k39])]) C hP hD hS [0] rfl rfl ⟨(.int 0), (.int 0), (.int 0), (.int 0), (.int 0), (.int 0), (.int 0), (.int 0), (.int 0), (.int (-1)), (.int 0), (.int 0), (.int 0), (.int 0), (.int 0), (.int 0), (.int 0), (.int 0), (.int 0), rfl⟩ (by decide) (by decide) d_X9_tray_51
  · have hgo9 := trivial
    refine lv_aload_n hx hb d_X9_tray_0 rfl (lv_at hl 0 rfl) ?_
    refine lv_iload_n hx hb d_X9_tray_1 rfl (lv_at hl 1 rfl) ?_
    have ct_14 : Cut [(h0, eO 9 [.ref k0, .ref k1, .ref k2, .ref k3, .int 0, .ref k5, .int 0, .int 0, .int 0, .int 0, .int 0, .int 0, .int 0, .int 0, .int 0, .int (-1), .int 0, .int 0, .int 0, .ref k19, .ref k20, .ref k21, .ref k22, .ref k23, .int 0, .ref k25, .ref k26, .ref k27, .int 0, .int 0, .ref k30, .ref k31, .int 0, .ref k33, .int 0, .int 0, .ref k36, .ref k37, .ref k38, .ref k39]), (k37, eI (ty 0) 4 tsF)] [] [(h0, eO 9 [.ref k0, .ref k1, .ref k2, .ref k3, .int 0, .ref k5, .int 0, .int 0, .int 0, .int 0, .int 0, .int 0, .int 0, .int 0, .int 0, .int (-1), .int 0, .int 0, .int 0, .ref k19, .ref k20, .ref k21, .ref k22, .ref k23, .int 0, .ref k25, .ref k26, .ref k27, .int 0, .int 0, .ref k30, .ref k31, .int 0, .ref k33, .int 0, .int 0, .ref k36, .ref k37, .ref k38, .ref k39]), (k37, eI (ty 0) 4 tsF)] [] [0, 1] := ⟨rfl, rfl, rfl, rfl, by decide⟩
    refine cont_I C hP hD hS ct_14 (run_S (As := [.int (nI ta)]) (rest := [.ref h0]) C hP hD hS ct_14 (c_misTT l D ty ta hta) kS_PinchedBillModel_352 rfl hl.1 rfl (nle rfl) d_X9_tray_2 ⟨by decide, by decide, by decide, by decide⟩) (fun r_16 w_17 H locs hw_15 hP hD hS => ?_)
    obtain ⟨rfl, rfl⟩ := hw_15
    have hP : va_P D vwCl [(h0, eO 9 [.ref k0, .ref k1, .ref k2, .ref k3, .int 0, .ref k5, .int 0, .int 0, .int 0, .int 0, .int 0, .int 0, .int 0, .int 0, .int 0, .int (-1), .int 0, .int 0, .int 0, .ref k19, .ref k20, .ref k21, .ref k22, .ref k23, .int 0, .ref k25, .ref k26, .ref k27, .int 0, .int 0, .ref k30, .ref k31, .int 0, .ref k33, .int 0, .int 0, .ref k36, .ref k37, .ref k38, .ref k39]), (k37, eI (ty 0) 4 tsF)] H := hP
    have hD : va_D A [(h0, eO 9 [.ref k0, .ref k1, .ref k2, .ref k3, .int 0, .ref k5, .int 0, .int 0, .int 0, .int 0, .int 0, .int 0, .int 0, .int 0, .int 0, .int (-1), .int 0, .int 0, .int 0, .ref k19, .ref k20, .ref k21, .ref k22, .ref k23, .int 0, .ref k25, .ref k26, .ref k27, .int 0, .int 0, .ref k30, .ref k31, .int 0, .ref k33, .int 0, .int 0, .ref k36, .ref k37, .ref k38, .ref k39]), (k37, eI (ty 0) 4 tsF)] := hD
    refine b_if_neT C 12 d_X9_tray_5 (by decide) (by decide) ?_
    refine lv_iload_n hx hb d_X9_tray_12 rfl (lv_at hl 2 rfl) ?_
    refine lv_i2l (v := (so).toInt64) hx hb d_X9_tray_13 rfl ?_
    refine lv_lconst (v := 0) hx hb d_X9_tray_14 (by decide) ?_
    refine lv_ldc2 hx hb hown (hts _ k_1912) d_X9_tray_15 ?_
    have ct_18 : Cut [(h0, eO 9 [.ref k0, .ref k1, .ref k2, .ref k3, .int 0, .ref k5, .int 0, .int 0, .int 0, .int 0, .int 0, .int 0, .int 0, .int 0, .int 0, .int (-1), .int 0, .int 0, .int 0, .ref k19, .ref k20, .ref k21, .ref k22, .ref k23, .int 0, .ref k25, .ref k26, .ref k27, .int 0, .int 0, .ref k30, .ref k31, .int 0, .ref k33, .int 0, .int 0, .ref k36, .ref k37, .ref k38, .ref k39]), (k37, eI (ty 0) 4 tsF)] [] [(h0, eO 9 [.ref k0, .ref k1, .ref k2, .ref k3, .int 0, .ref k5, .int 0, .int 0, .int 0, .int 0, .int 0, .int 0, .int 0, .int 0, .int 0, .int (-1), .int 0, .int 0, .int 0, .ref k19, .ref k20, .ref k21, .ref k22, .ref k23, .int 0, .ref k25, .ref k26, .ref k27, .int 0, .int 0, .ref k30, .ref k31, .int 0, .ref k33, .int 0, .int 0, .ref k36, .ref k37, .ref k38, .ref k39]), (k37, eI (ty 0) 4 tsF)] [] [0, 1] := ⟨rfl, rfl, rfl, rfl, by decide⟩
    refine cont_I C hP hD hS ct_18 (run_S (As := [.long (so).toInt64, .long 0, .long 3]) (rest := [.ref h0]) C hP hD hS ct_18 (c_mwi l D ty ((so).toInt64) 0 3) kS_PinchedBillModel_140 rfl hl.1 rfl (nle rfl) d_X9_tray_18 ⟨by decide, by decide, by decide, by decide⟩) (fun r_20 w_21 H locs hw_19 hP hD hS => ?_)
    obtain ⟨rfl, rfl⟩ := hw_19
    have hP : va_P D vwCl [(h0, eO 9 [.ref k0, .ref k1, .ref k2, .ref k3, .int 0, .ref k5, .int 0, .int 0, .int 0, .int 0, .int 0, .int 0, .int 0, .int 0, .int 0, .int (-1), .int 0, .int 0, .int 0, .ref k19, .ref k20, .ref k21, .ref k22, .ref k23, .int 0, .ref k25, .ref k26, .ref k27, .int 0, .int 0, .ref k30, .ref k31, .int 0, .ref k33, .int 0, .int 0, .ref k36, .ref k37, .ref k38, .ref k39]), (k37, eI (ty 0) 4 tsF)] H := hP
    have hD : va_D A [(h0, eO 9 [.ref k0, .ref k1, .ref k2, .ref k3, .int 0, .ref k5, .int 0, .int 0, .int 0, .int 0, .int 0, .int 0, .int 0, .int 0, .int 0, .int (-1), .int 0, .int 0, .int 0, .ref k19, .ref k20, .ref k21, .ref k22, .ref k23, .int 0, .ref k25, .ref k26, .ref k27, .int 0, .int 0, .ref k30, .ref k31, .int 0, .ref k33, .int 0, .int 0, .ref k36, .ref k37, .ref k38, .ref k39]), (k37, eI (ty 0) 4 tsF)] := hD
    refine topeq (z := 0) (wiQ (n := so) (lo := 0) (hi := 3) rfl rfl rfl hq_1) ?_
    refine b_if_eqT C 36 d_X9_tray_21 (by decide) (by decide) ?_
    refine lv_iconst (v := 2) hx hb d_X9_tray_36 (by decide) ?_
    refine lv_goto (tgt := 41) hx hb d_X9_tray_37 (by decide) ?_
    refine r_put (w := [(h0, eO 9 [.ref k0, .ref k1, .ref k2, .ref k3, .int 2, .ref k5, .int 0, .int 0, .int 0, .int 0, .int 0, .int 0, .int 0, .int 0, .int 0, .int (-1), .int 0, .int 0, .int 0, .ref k19, .ref k20, .ref k21, .ref k22, .ref k23, .int 0, .ref k25, .ref k26, .ref k27, .int 0, .int 0, .ref k30, .ref k31, .int 0, .ref k33, .int 0, .int 0, .ref k36, .ref k37, .ref k38, .ref k39]), (k37, eI (ty 0) 4 tsF)]) C hP hD hS 0 rfl rfl lay_X9 tok_X9 nmo_X9 4 (by decide) k_1549 rfl rfl rfl (nle rfl) rfl d_X9_tray_41 (fun H locs hP hD hS => ?_)
    refine lv_aload_n hx hb d_X9_tray_44 rfl (lv_at hl 0 rfl) ?_
    refine r_get (v := .int 2) C hP 0 rfl rfl lay_X9 4 (by decide) k_1549 rfl d_X9_tray_45 ?_
    refine b_if_leF C 52 d_X9_tray_48 (by decide) (by decide) ?_
    exact ret_V (w := [(h0, eO 9 [.ref k0, .ref k1, .ref k2, .ref k3, .int 2, .ref k5, .int 0, .int 0, .int 0, .int 0, .int 0, .int 0, .int 0, .int 0, .int 0, .int (-1), .int 0, .int 0, .int 0, .ref k19, .ref k20, .ref k21, .ref k22, .ref k23, .int 0, .ref k25, .ref k26, .ref k27, .int 0, .int 0, .ref k30, .ref k31, .int 0, .ref k33, .int 0, .int 0, .ref k36, .ref k37, .ref k38, .ref k39])]) C hP hD hS [0] rfl rfl ⟨(.int 0), (.int 0), (.int 0), (.int 0), (.int 0), (.int 0), (.int 0), (.int 0), (.int 0), (.int (-1)), (.int 0), (.int 0), (.int 0), (.int 0), (.int 0), (.int 0), (.int 0), (.int 0), (.int 0), rfl⟩ (by decide) (by decide) d_X9_tray_51
set_option maxHeartbeats 4000000 in
set_option maxRecDepth 100000 in
theorem m_tray0 (l : Launch) (D : va_G) (ty : Nat → ClassId) (h0 : Nat) (k0 : Nat) (k1 : Nat) (k2 : Nat) (k3 : Nat) (k5 : Nat) (k19 : Nat) (k20 : Nat) (k21 : Nat) (k22 : Nat) (k23 : Nat) (k25 : Nat) (k26 : Nat) (k27 : Nat) (k30 : Nat) (k31 : Nat) (k33 : Nat) (k36 : Nat) (k37 : Nat) (k38 : Nat) (k39 : Nat) (ta : Nat) (so : Int32) (ma : Int32) (hta : ta < 4) (hso : ¬ so < 0 ∧ ¬ 3 < so) (hma : ¬ ma < 0 ∧ ¬ 30 < ma) : CC l D ty ⟨"PinchedBillModel", "tray", "(III)V"⟩ prog_11_method_132_code 5 none 2 45 0 0 [.ref h0, .int (nI ta), .int so, .int ma] [(h0, eO 9 [.ref k0, .ref k1, .ref k2, .ref k3, .int 0, .ref k5, .int 0, .int 0, .int 0, .int 0, .int 0, .int 0, .int 0, .int 0, .int 0, .int (-1), .int 0, .int 0, .int 0, .ref k19, .ref k20, .ref k21, .ref k22, .ref k23, .int 0, .ref k25, .ref k26, .ref k27, .int 0, .int 0, .ref k30, .ref k31, .int 0, .ref k33, .int 0, .int 0, .ref k36, .ref k37, .ref k38, .ref k39]), (k37, eI (ty 0) 4 tsF), (k38, eI (ty 0) 4 (fun _ => 0)), (k39, eJ (ty 3) 120 (fun _ => 0))] (QV D ty (fun (w : va_W) => ∃ (w6 : Value) (w7 : Value) (w8 : Value) (w9 : Value) (w10 : Value) (w11 : Value) (w12 : Value) (w13 : Value) (w14 : Value) (w15 : Value) (w16 : Value) (w17 : Value) (w18 : Value) (w24 : Value) (w28 : Value) (w29 : Value) (w32 : Value) (w34 : Value) (w35 : Value), w = [(h0, eO 9 [.ref k0, .ref k1, .ref k2, .ref k3, .int 0, .ref k5, w6, w7, w8, w9, w10, w11, w12, w13, w14, w15, w16, w17, w18, .ref k19, .ref k20, .ref k21, .ref k22, .ref k23, w24, .ref k25, .ref k26, .ref k27, w28, w29, .ref k30, .ref k31, w32, .ref k33, w34, w35, .ref k36, .ref k37, .ref k38, .ref k39])])) := by
  refine CC_of (by decide) ?_
  intro p e s m below meth c A C hP hD hS
  obtain ⟨⟨hx, hb, hml, hown, hts⟩, hr, hlocks, hnm, hK, hE, hA, hZ⟩ := id C
  refine startW [.ref h0, .int (nI ta), .int so, .int ma] 5 (nle rfl) (lv := [(0, .ref h0), (1, .int (nI ta)), (2, .int so), (3, .int ma)]) rfl (fun ls hl => ?_)
  refine lv_aload_n hx hb d_X9_tray_0 rfl (lv_at hl 0 rfl) ?_
  refine lv_iload_n hx hb d_X9_tray_1 rfl (lv_at hl 1 rfl) ?_
  have ct_1 : Cut [(h0, eO 9 [.ref k0, .ref k1, .ref k2, .ref k3, .int 0, .ref k5, .int 0, .int 0, .int 0, .int 0, .int 0, .int 0, .int 0, .int 0, .int 0, .int (-1), .int 0, .int 0, .int 0, .ref k19, .ref k20, .ref k21, .ref k22, .ref k23, .int 0, .ref k25, .ref k26, .ref k27, .int 0, .int 0, .ref k30, .ref k31, .int 0, .ref k33, .int 0, .int 0, .ref k36, .ref k37, .ref k38, .ref k39]), (k37, eI (ty 0) 4 tsF), (k38, eI (ty 0) 4 (fun _ => 0)), (k39, eJ (ty 3) 120 (fun _ => 0))] [] [(h0, eO 9 [.ref k0, .ref k1, .ref k2, .ref k3, .int 0, .ref k5, .int 0, .int 0, .int 0, .int 0, .int 0, .int 0, .int 0, .int 0, .int 0, .int (-1), .int 0, .int 0, .int 0, .ref k19, .ref k20, .ref k21, .ref k22, .ref k23, .int 0, .ref k25, .ref k26, .ref k27, .int 0, .int 0, .ref k30, .ref k31, .int 0, .ref k33, .int 0, .int 0, .ref k36, .ref k37, .ref k38, .ref k39]), (k37, eI (ty 0) 4 tsF), (k38, eI (ty 0) 4 (fun _ => 0)), (k39, eJ (ty 3) 120 (fun _ => 0))] [] [0, 1, 2, 3] := ⟨rfl, rfl, rfl, rfl, by decide⟩
  refine cont_I C hP hD hS ct_1 (run_S (As := [.int (nI ta)]) (rest := [.ref h0]) C hP hD hS ct_1 (c_misTT l D ty ta hta) kS_PinchedBillModel_352 rfl hl.1 rfl (nle rfl) d_X9_tray_2 ⟨by decide, by decide, by decide, by decide⟩) (fun r_3 w_4 H locs hw_2 hP hD hS => ?_)
  obtain ⟨rfl, rfl⟩ := hw_2
  have hP : va_P D vwCl [(h0, eO 9 [.ref k0, .ref k1, .ref k2, .ref k3, .int 0, .ref k5, .int 0, .int 0, .int 0, .int 0, .int 0, .int 0, .int 0, .int 0, .int 0, .int (-1), .int 0, .int 0, .int 0, .ref k19, .ref k20, .ref k21, .ref k22, .ref k23, .int 0, .ref k25, .ref k26, .ref k27, .int 0, .int 0, .ref k30, .ref k31, .int 0, .ref k33, .int 0, .int 0, .ref k36, .ref k37, .ref k38, .ref k39]), (k37, eI (ty 0) 4 tsF), (k38, eI (ty 0) 4 (fun _ => 0)), (k39, eJ (ty 3) 120 (fun _ => 0))] H := hP
  have hD : va_D A [(h0, eO 9 [.ref k0, .ref k1, .ref k2, .ref k3, .int 0, .ref k5, .int 0, .int 0, .int 0, .int 0, .int 0, .int 0, .int 0, .int 0, .int 0, .int (-1), .int 0, .int 0, .int 0, .ref k19, .ref k20, .ref k21, .ref k22, .ref k23, .int 0, .ref k25, .ref k26, .ref k27, .int 0, .int 0, .ref k30, .ref k31, .int 0, .ref k33, .int 0, .int 0, .ref k36, .ref k37, .ref k38, .ref k39]), (k37, eI (ty 0) 4 tsF), (k38, eI (ty 0) 4 (fun _ => 0)), (k39, eJ (ty 3) 120 (fun _ => 0))] := hD
  refine b_if_neT C 12 d_X9_tray_5 (by decide) (by decide) ?_
  refine lv_iload_n hx hb d_X9_tray_12 rfl (lv_at hl 2 rfl) ?_
  refine lv_i2l (v := (so).toInt64) hx hb d_X9_tray_13 rfl ?_
  refine lv_lconst (v := 0) hx hb d_X9_tray_14 (by decide) ?_
  refine lv_ldc2 hx hb hown (hts _ k_1912) d_X9_tray_15 ?_
  have ct_5 : Cut [(h0, eO 9 [.ref k0, .ref k1, .ref k2, .ref k3, .int 0, .ref k5, .int 0, .int 0, .int 0, .int 0, .int 0, .int 0, .int 0, .int 0, .int 0, .int (-1), .int 0, .int 0, .int 0, .ref k19, .ref k20, .ref k21, .ref k22, .ref k23, .int 0, .ref k25, .ref k26, .ref k27, .int 0, .int 0, .ref k30, .ref k31, .int 0, .ref k33, .int 0, .int 0, .ref k36, .ref k37, .ref k38, .ref k39]), (k37, eI (ty 0) 4 tsF), (k38, eI (ty 0) 4 (fun _ => 0)), (k39, eJ (ty 3) 120 (fun _ => 0))] [] [(h0, eO 9 [.ref k0, .ref k1, .ref k2, .ref k3, .int 0, .ref k5, .int 0, .int 0, .int 0, .int 0, .int 0, .int 0, .int 0, .int 0, .int 0, .int (-1), .int 0, .int 0, .int 0, .ref k19, .ref k20, .ref k21, .ref k22, .ref k23, .int 0, .ref k25, .ref k26, .ref k27, .int 0, .int 0, .ref k30, .ref k31, .int 0, .ref k33, .int 0, .int 0, .ref k36, .ref k37, .ref k38, .ref k39]), (k37, eI (ty 0) 4 tsF), (k38, eI (ty 0) 4 (fun _ => 0)), (k39, eJ (ty 3) 120 (fun _ => 0))] [] [0, 1, 2, 3] := ⟨rfl, rfl, rfl, rfl, by decide⟩
  refine cont_I C hP hD hS ct_5 (run_S (As := [.long (so).toInt64, .long 0, .long 3]) (rest := [.ref h0]) C hP hD hS ct_5 (c_mwi l D ty ((so).toInt64) 0 3) kS_PinchedBillModel_140 rfl hl.1 rfl (nle rfl) d_X9_tray_18 ⟨by decide, by decide, by decide, by decide⟩) (fun r_7 w_8 H locs hw_6 hP hD hS => ?_)
  obtain ⟨rfl, rfl⟩ := hw_6
  have hP : va_P D vwCl [(h0, eO 9 [.ref k0, .ref k1, .ref k2, .ref k3, .int 0, .ref k5, .int 0, .int 0, .int 0, .int 0, .int 0, .int 0, .int 0, .int 0, .int 0, .int (-1), .int 0, .int 0, .int 0, .ref k19, .ref k20, .ref k21, .ref k22, .ref k23, .int 0, .ref k25, .ref k26, .ref k27, .int 0, .int 0, .ref k30, .ref k31, .int 0, .ref k33, .int 0, .int 0, .ref k36, .ref k37, .ref k38, .ref k39]), (k37, eI (ty 0) 4 tsF), (k38, eI (ty 0) 4 (fun _ => 0)), (k39, eJ (ty 3) 120 (fun _ => 0))] H := hP
  have hD : va_D A [(h0, eO 9 [.ref k0, .ref k1, .ref k2, .ref k3, .int 0, .ref k5, .int 0, .int 0, .int 0, .int 0, .int 0, .int 0, .int 0, .int 0, .int 0, .int (-1), .int 0, .int 0, .int 0, .ref k19, .ref k20, .ref k21, .ref k22, .ref k23, .int 0, .ref k25, .ref k26, .ref k27, .int 0, .int 0, .ref k30, .ref k31, .int 0, .ref k33, .int 0, .int 0, .ref k36, .ref k37, .ref k38, .ref k39]), (k37, eI (ty 0) 4 tsF), (k38, eI (ty 0) 4 (fun _ => 0)), (k39, eJ (ty 3) 120 (fun _ => 0))] := hD
  refine topeq (z := 1) (wiP (n := so) (lo := 0) (hi := 3) rfl rfl rfl hso) ?_
  refine b_if_eqF C 36 d_X9_tray_21 (by decide) (by decide) ?_
  refine lv_iload_n hx hb d_X9_tray_24 rfl (lv_at hl 3 rfl) ?_
  refine lv_i2l (v := (ma).toInt64) hx hb d_X9_tray_25 rfl ?_
  refine lv_lconst (v := 0) hx hb d_X9_tray_26 (by decide) ?_
  refine lv_ldc2 hx hb hown (hts _ k_1942) d_X9_tray_27 ?_
  have ct_9 : Cut [(h0, eO 9 [.ref k0, .ref k1, .ref k2, .ref k3, .int 0, .ref k5, .int 0, .int 0, .int 0, .int 0, .int 0, .int 0, .int 0, .int 0, .int 0, .int (-1), .int 0, .int 0, .int 0, .ref k19, .ref k20, .ref k21, .ref k22, .ref k23, .int 0, .ref k25, .ref k26, .ref k27, .int 0, .int 0, .ref k30, .ref k31, .int 0, .ref k33, .int 0, .int 0, .ref k36, .ref k37, .ref k38, .ref k39]), (k37, eI (ty 0) 4 tsF), (k38, eI (ty 0) 4 (fun _ => 0)), (k39, eJ (ty 3) 120 (fun _ => 0))] [] [(h0, eO 9 [.ref k0, .ref k1, .ref k2, .ref k3, .int 0, .ref k5, .int 0, .int 0, .int 0, .int 0, .int 0, .int 0, .int 0, .int 0, .int 0, .int (-1), .int 0, .int 0, .int 0, .ref k19, .ref k20, .ref k21, .ref k22, .ref k23, .int 0, .ref k25, .ref k26, .ref k27, .int 0, .int 0, .ref k30, .ref k31, .int 0, .ref k33, .int 0, .int 0, .ref k36, .ref k37, .ref k38, .ref k39]), (k37, eI (ty 0) 4 tsF), (k38, eI (ty 0) 4 (fun _ => 0)), (k39, eJ (ty 3) 120 (fun _ => 0))] [] [0, 1, 2, 3] := ⟨rfl, rfl, rfl, rfl, by decide⟩
  refine cont_I C hP hD hS ct_9 (run_S (As := [.long (ma).toInt64, .long 0, .long 30]) (rest := [.ref h0]) C hP hD hS ct_9 (c_mwi l D ty ((ma).toInt64) 0 30) kS_PinchedBillModel_140 rfl hl.1 rfl (nle rfl) d_X9_tray_30 ⟨by decide, by decide, by decide, by decide⟩) (fun r_11 w_12 H locs hw_10 hP hD hS => ?_)
  obtain ⟨rfl, rfl⟩ := hw_10
  have hP : va_P D vwCl [(h0, eO 9 [.ref k0, .ref k1, .ref k2, .ref k3, .int 0, .ref k5, .int 0, .int 0, .int 0, .int 0, .int 0, .int 0, .int 0, .int 0, .int 0, .int (-1), .int 0, .int 0, .int 0, .ref k19, .ref k20, .ref k21, .ref k22, .ref k23, .int 0, .ref k25, .ref k26, .ref k27, .int 0, .int 0, .ref k30, .ref k31, .int 0, .ref k33, .int 0, .int 0, .ref k36, .ref k37, .ref k38, .ref k39]), (k37, eI (ty 0) 4 tsF), (k38, eI (ty 0) 4 (fun _ => 0)), (k39, eJ (ty 3) 120 (fun _ => 0))] H := hP
  have hD : va_D A [(h0, eO 9 [.ref k0, .ref k1, .ref k2, .ref k3, .int 0, .ref k5, .int 0, .int 0, .int 0, .int 0, .int 0, .int 0, .int 0, .int 0, .int 0, .int (-1), .int 0, .int 0, .int 0, .ref k19, .ref k20, .ref k21, .ref k22, .ref k23, .int 0, .ref k25, .ref k26, .ref k27, .int 0, .int 0, .ref k30, .ref k31, .int 0, .ref k33, .int 0, .int 0, .ref k36, .ref k37, .ref k38, .ref k39]), (k37, eI (ty 0) 4 tsF), (k38, eI (ty 0) 4 (fun _ => 0)), (k39, eJ (ty 3) 120 (fun _ => 0))] := hD
  refine topeq (z := 1) (wiP (n := ma) (lo := 0) (hi := 30) rfl rfl rfl hma) ?_
  refine b_if_neT C 40 d_X9_tray_33 (by decide) (by decide) ?_
  refine lv_iconst (v := 0) hx hb d_X9_tray_40 (by decide) ?_
  refine r_put (w := [(h0, eO 9 [.ref k0, .ref k1, .ref k2, .ref k3, .int 0, .ref k5, .int 0, .int 0, .int 0, .int 0, .int 0, .int 0, .int 0, .int 0, .int 0, .int (-1), .int 0, .int 0, .int 0, .ref k19, .ref k20, .ref k21, .ref k22, .ref k23, .int 0, .ref k25, .ref k26, .ref k27, .int 0, .int 0, .ref k30, .ref k31, .int 0, .ref k33, .int 0, .int 0, .ref k36, .ref k37, .ref k38, .ref k39]), (k37, eI (ty 0) 4 tsF), (k38, eI (ty 0) 4 (fun _ => 0)), (k39, eJ (ty 3) 120 (fun _ => 0))]) C hP hD hS 0 rfl rfl lay_X9 tok_X9 nmo_X9 4 (by decide) k_1549 rfl rfl rfl (nle rfl) rfl d_X9_tray_41 (fun H locs hP hD hS => ?_)
  refine lv_aload_n hx hb d_X9_tray_44 rfl (lv_at hl 0 rfl) ?_
  refine r_get (v := .int 0) C hP 0 rfl rfl lay_X9 4 (by decide) k_1549 rfl d_X9_tray_45 ?_
  refine b_if_leT C 52 d_X9_tray_48 (by decide) (by decide) ?_
  refine lv_aload_n hx hb d_X9_tray_52 rfl (lv_at hl 0 rfl) ?_
  refine r_get (v := .ref k37) C hP 0 rfl rfl lay_X9 37 (by decide) k_1582 rfl d_X9_tray_53 ?_
  refine lv_iload_n hx hb d_X9_tray_56 rfl (lv_at hl 1 rfl) ?_
  refine lv_iload_n hx hb d_X9_tray_57 rfl (lv_at hl 2 rfl) ?_
  refine r_iast (w := [(h0, eO 9 [.ref k0, .ref k1, .ref k2, .ref k3, .int 0, .ref k5, .int 0, .int 0, .int 0, .int 0, .int 0, .int 0, .int 0, .int 0, .int 0, .int (-1), .int 0, .int 0, .int 0, .ref k19, .ref k20, .ref k21, .ref k22, .ref k23, .int 0, .ref k25, .ref k26, .ref k27, .int 0, .int 0, .ref k30, .ref k31, .int 0, .ref k33, .int 0, .int 0, .ref k36, .ref k37, .ref k38, .ref k39]), (k37, eI (ty 0) 4 (upd tsF ta so)), (k38, eI (ty 0) 4 (fun _ => 0)), (k39, eJ (ty 3) 120 (fun _ => 0))]) C hP hD hS 1 rfl ta rfl (by omega) (by decide) rfl d_X9_tray_58 (fun H locs hP hD hS => ?_)
  refine lv_aload_n hx hb d_X9_tray_59 rfl (lv_at hl 0 rfl) ?_
  refine r_get (v := .ref k38) C hP 0 rfl rfl lay_X9 38 (by decide) k_1583 rfl d_X9_tray_60 ?_
  refine lv_iload_n hx hb d_X9_tray_63 rfl (lv_at hl 1 rfl) ?_
  refine lv_iload_n hx hb d_X9_tray_64 rfl (lv_at hl 3 rfl) ?_
  refine r_iast (w := [(h0, eO 9 [.ref k0, .ref k1, .ref k2, .ref k3, .int 0, .ref k5, .int 0, .int 0, .int 0, .int 0, .int 0, .int 0, .int 0, .int 0, .int 0, .int (-1), .int 0, .int 0, .int 0, .ref k19, .ref k20, .ref k21, .ref k22, .ref k23, .int 0, .ref k25, .ref k26, .ref k27, .int 0, .int 0, .ref k30, .ref k31, .int 0, .ref k33, .int 0, .int 0, .ref k36, .ref k37, .ref k38, .ref k39]), (k37, eI (ty 0) 4 (upd tsF ta so)), (k38, eI (ty 0) 4 (upd (fun _ => 0) ta ma)), (k39, eJ (ty 3) 120 (fun _ => 0))]) C hP hD hS 2 rfl ta rfl (by omega) (by decide) rfl d_X9_tray_65 (fun H locs hP hD hS => ?_)
  refine lv_iconst (v := 0) hx hb d_X9_tray_66 (by decide) ?_
  refine lv_istore (lv' := [(4, .int 0), (0, .ref h0), (1, .int (nI ta)), (2, .int so), (3, .int ma)]) hx hb d_X9_tray_67 hl (by decide) rfl (fun ls hl => ?_)
  refine loopW2 (fun (i : Nat) (g : Nat → Int64) (H : Heap) (locs : List Loc) (ls : Array Slot) => (i ≤ 30) ∧ va_P D vwCl [(h0, eO 9 [.ref k0, .ref k1, .ref k2, .ref k3, .int 0, .ref k5, .int 0, .int 0, .int 0, .int 0, .int 0, .int 0, .int 0, .int 0, .int 0, .int (-1), .int 0, .int 0, .int 0, .ref k19, .ref k20, .ref k21, .ref k22, .ref k23, .int 0, .ref k25, .ref k26, .ref k27, .int 0, .int 0, .ref k30, .ref k31, .int 0, .ref k33, .int 0, .int 0, .ref k36, .ref k37, .ref k38, .ref k39]), (k37, eI (ty 0) 4 (upd tsF ta so)), (k38, eI (ty 0) 4 (upd (fun _ => 0) ta ma)), (k39, eJ (ty 3) 120 g)] H ∧ va_D A [(h0, eO 9 [.ref k0, .ref k1, .ref k2, .ref k3, .int 0, .ref k5, .int 0, .int 0, .int 0, .int 0, .int 0, .int 0, .int 0, .int 0, .int 0, .int (-1), .int 0, .int 0, .int 0, .ref k19, .ref k20, .ref k21, .ref k22, .ref k23, .int 0, .ref k25, .ref k26, .ref k27, .int 0, .int 0, .ref k30, .ref k31, .int 0, .ref k33, .int 0, .int 0, .ref k36, .ref k37, .ref k38, .ref k39]), (k37, eI (ty 0) 4 (upd tsF ta so)), (k38, eI (ty 0) 4 (upd (fun _ => 0) ta ma)), (k39, eJ (ty 3) 120 g)] ∧ va_S A s.heap H locs ∧ lv_has ls 5 [(4, .int (nI i)), (0, .ref h0), (1, .int (nI ta)), (2, .int so), (3, .int ma)]) (fun (i : Nat) (g : Nat → Int64) => 30 - i) ?_ 0 (fun _ => 0) ⟨(by omega), hP, hD, hS, lv_sub hl [0, 1, 2, 3, 4] rfl⟩
  intro i g H locs ls hI ih_13
  obtain ⟨hi, hP, hD, hS, hl⟩ := hI
  refine lv_iload hx hb d_X9_tray_69 (lv_at hl 0 rfl) ?_
  refine lv_bipush (v := 30) hx hb d_X9_tray_71 (by decide) ?_
  refine lv_icmp_ge (tgt := 95) hx hb d_X9_tray_73 (by decide) (fun hc_14 => ?_) (fun hc_14 => ?_)
  · have hc_14 := un_le 30 i rfl rfl (by omega) (by omega) hc_14
    exact ret_V (w := [(h0, eO 9 [.ref k0, .ref k1, .ref k2, .ref k3, .int 0, .ref k5, .int 0, .int 0, .int 0, .int 0, .int 0, .int 0, .int 0, .int 0, .int 0, .int (-1), .int 0, .int 0, .int 0, .ref k19, .ref k20, .ref k21, .ref k22, .ref k23, .int 0, .ref k25, .ref k26, .ref k27, .int 0, .int 0, .ref k30, .ref k31, .int 0, .ref k33, .int 0, .int 0, .ref k36, .ref k37, .ref k38, .ref k39])]) C hP hD hS [0] rfl rfl ⟨(.int 0), (.int 0), (.int 0), (.int 0), (.int 0), (.int 0), (.int 0), (.int 0), (.int 0), (.int (-1)), (.int 0), (.int 0), (.int 0), (.int 0), (.int 0), (.int 0), (.int 0), (.int 0), (.int 0), rfl⟩ (by decide) (by decide) d_X9_tray_95
  · have hc_14 := un_nle 30 i rfl rfl (by omega) (by omega) hc_14
    refine lv_aload_n hx hb d_X9_tray_76 rfl (lv_at hl 1 rfl) ?_
    refine r_get (v := .ref k39) C hP 0 rfl rfl lay_X9 39 (by decide) k_1584 rfl d_X9_tray_77 ?_
    refine lv_bipush (v := 30) hx hb d_X9_tray_80 (by decide) ?_
    refine lv_iload_n hx hb d_X9_tray_82 rfl (lv_at hl 2 rfl) ?_
    refine r_imul (z := (nI (30 * ta))) C d_X9_tray_83 (a_mul 30 ta (30 * ta) rfl rfl (by omega)) ?_
    refine lv_iload hx hb d_X9_tray_84 (lv_at hl 0 rfl) ?_
    refine r_iadd (z := (nI ((30 * ta) + i))) C d_X9_tray_86 (a_add (30 * ta) i ((30 * ta) + i) rfl rfl (by omega)) ?_
    refine lv_lconst (v := 0) hx hb d_X9_tray_87 (by decide) ?_
    refine r_last (w := [(h0, eO 9 [.ref k0, .ref k1, .ref k2, .ref k3, .int 0, .ref k5, .int 0, .int 0, .int 0, .int 0, .int 0, .int 0, .int 0, .int 0, .int 0, .int (-1), .int 0, .int 0, .int 0, .ref k19, .ref k20, .ref k21, .ref k22, .ref k23, .int 0, .ref k25, .ref k26, .ref k27, .int 0, .int 0, .ref k30, .ref k31, .int 0, .ref k33, .int 0, .int 0, .ref k36, .ref k37, .ref k38, .ref k39]), (k37, eI (ty 0) 4 (upd tsF ta so)), (k38, eI (ty 0) 4 (upd (fun _ => 0) ta ma)), (k39, eJ (ty 3) 120 (vp_updL g ((30 * ta) + i) 0))]) C hP hD hS 3 rfl ((30 * ta) + i) rfl (by omega) (by decide) rfl d_X9_tray_88 (fun H locs hP hD hS => ?_)
    refine lv_iinc (v := (nI (i + 1))) (lv' := [(4, .int (nI (i + 1))), (0, .ref h0), (1, .int (nI ta)), (2, .int so), (3, .int ma)]) (k := 0) hx hb d_X9_tray_89 hl rfl (a_inc i 1 (i + 1) rfl rfl) (by decide) rfl (fun ls hl => ?_)
    refine lv_goto (tgt := 69) hx hb d_X9_tray_92 (by decide) ?_
    exact ih_13 (i + 1) (vp_updL g ((30 * ta) + i) 0) _ _ _ (by omega) ⟨(by omega), sub_P hP (is := [0, 1, 2, 3]) rfl, hD.sub [0, 1, 2, 3] (by decide) rfl, hS, lv_sub hl [0, 1, 2, 3, 4] rfl⟩
set_option maxHeartbeats 4000000 in
set_option maxRecDepth 100000 in
theorem m_count (l : Launch) (D : va_G) (ty : Nat → ClassId) (h0 : Nat) (k0 : Nat) (k1 : Nat) (k2 : Nat) (k3 : Nat) (k5 : Nat) (k19 : Nat) (k20 : Nat) (k21 : Nat) (k22 : Nat) (k23 : Nat) (k25 : Nat) (k26 : Nat) (k27 : Nat) (k30 : Nat) (k31 : Nat) (k33 : Nat) (k36 : Nat) (k37 : Nat) (k38 : Nat) (k39 : Nat) (wh : Int32) : CC l D ty ⟨"PinchedBillModel", "count", "(I)I"⟩ prog_11_method_138_code 2 (some .int) 3 60 0 0 [.ref h0, .int wh] [(h0, eO 9 [.ref k0, .ref k1, .ref k2, .ref k3, .int 0, .ref k5, .int 0, .int 0, .int 0, .int 0, .int 0, .int 0, .int 0, .int 0, .int 0, .int (-1), .int 0, .int 0, .int 0, .ref k19, .ref k20, .ref k21, .ref k22, .ref k23, .int 0, .ref k25, .ref k26, .ref k27, .int 0, .int 0, .ref k30, .ref k31, .int 0, .ref k33, .int 0, .int 0, .ref k36, .ref k37, .ref k38, .ref k39]), (k0, eI (ty 0) 1875 knF)] (QI D ty (fun (r : Int32) (w : va_W) => (cN wh) = r ∧ w = [])) := by
  refine CC_of (by decide) ?_
  intro p e s m below meth c A C hP hD hS
  obtain ⟨⟨hx, hb, hml, hown, hts⟩, hr, hlocks, hnm, hK, hE, hA, hZ⟩ := id C
  refine startW [.ref h0, .int wh] 2 (nle rfl) (lv := [(0, .ref h0), (1, .int wh)]) rfl (fun ls hl => ?_)
  refine lv_aload_n hx hb d_X9_count_0 rfl (lv_at hl 0 rfl) ?_
  refine lv_iconst (v := 0) hx hb d_X9_count_1 (by decide) ?_
  refine r_put (w := [(h0, eO 9 [.ref k0, .ref k1, .ref k2, .ref k3, .int 0, .ref k5, .int 0, .int 0, .int 0, .int 0, .int 0, .int 0, .int 0, .int 0, .int 0, .int (-1), .int 0, .int 0, .int 0, .ref k19, .ref k20, .ref k21, .ref k22, .ref k23, .int 0, .ref k25, .ref k26, .ref k27, .int 0, .int 0, .ref k30, .ref k31, .int 0, .ref k33, .int 0, .int 0, .ref k36, .ref k37, .ref k38, .ref k39]), (k0, eI (ty 0) 1875 knF)]) C hP hD hS 0 rfl rfl lay_X9 tok_X9 nmo_X9 4 (by decide) k_1549 rfl rfl rfl (nle rfl) rfl d_X9_count_2 (fun H locs hP hD hS => ?_)
  refine lv_iload_n hx hb d_X9_count_5 rfl (lv_at hl 1 rfl) ?_
  rcases sw8 wh with rfl | rfl | rfl | rfl | rfl | rfl | rfl | rfl | h8
  · refine lv_tableIn (tgt := 52) hx hb d_X9_count_6 (by decide) (by decide) (by rfl) (by decide) ?_
    refine lv_aload_n hx hb d_X9_count_52 rfl (lv_at hl 0 rfl) ?_
    refine r_get (v := .ref k0) C hP 0 rfl rfl lay_X9 0 (by decide) k_1545 rfl d_X9_count_53 ?_
    refine lv_iconst (v := 0) hx hb d_X9_count_56 (by decide) ?_
    refine r_iald (v := 0) C hP 1 rfl 0 rfl (by decide) (by decide) rfl d_X9_count_57 ?_
    exact ret_I (w := []) C hP hD hS [] rfl rfl ⟨(Eq.symm (by decide)), rfl⟩ (by decide) (by decide) d_X9_count_58
  · refine lv_tableIn (tgt := 59) hx hb d_X9_count_6 (by decide) (by decide) (by rfl) (by decide) ?_
    refine lv_aload_n hx hb d_X9_count_59 rfl (lv_at hl 0 rfl) ?_
    refine r_get (v := .ref k0) C hP 0 rfl rfl lay_X9 0 (by decide) k_1545 rfl d_X9_count_60 ?_
    refine lv_iconst (v := 1) hx hb d_X9_count_63 (by decide) ?_
    refine r_iald (v := 1) C hP 1 rfl 1 rfl (by decide) (by decide) rfl d_X9_count_64 ?_
    exact ret_I (w := []) C hP hD hS [] rfl rfl ⟨(Eq.symm (by decide)), rfl⟩ (by decide) (by decide) d_X9_count_65
  · refine lv_tableIn (tgt := 66) hx hb d_X9_count_6 (by decide) (by decide) (by rfl) (by decide) ?_
    refine lv_aload_n hx hb d_X9_count_66 rfl (lv_at hl 0 rfl) ?_
    have ct_1 : Cut [(h0, eO 9 [.ref k0, .ref k1, .ref k2, .ref k3, .int 0, .ref k5, .int 0, .int 0, .int 0, .int 0, .int 0, .int 0, .int 0, .int 0, .int 0, .int (-1), .int 0, .int 0, .int 0, .ref k19, .ref k20, .ref k21, .ref k22, .ref k23, .int 0, .ref k25, .ref k26, .ref k27, .int 0, .int 0, .ref k30, .ref k31, .int 0, .ref k33, .int 0, .int 0, .ref k36, .ref k37, .ref k38, .ref k39]), (k0, eI (ty 0) 1875 knF)] [(h0, eO 9 [.ref k0, .ref k1, .ref k2, .ref k3, .int 0, .ref k5, .int 0, .int 0, .int 0, .int 0, .int 0, .int 0, .int 0, .int 0, .int 0, .int (-1), .int 0, .int 0, .int 0, .ref k19, .ref k20, .ref k21, .ref k22, .ref k23, .int 0, .ref k25, .ref k26, .ref k27, .int 0, .int 0, .ref k30, .ref k31, .int 0, .ref k33, .int 0, .int 0, .ref k36, .ref k37, .ref k38, .ref k39]), (k0, eI (ty 0) 1875 knF)] [] [0, 1] [] := ⟨rfl, rfl, rfl, rfl, by decide⟩
    refine cont_I C hP hD hS ct_1 (run_V (As := []) (rest := []) C hP hD hS ct_1 (c_mpeople l D ty h0 k0 k1 k2 k3 k5 k19 k20 k21 k22 k23 k25 k26 k27 k30 k31 k33 k36 k37 k38 k39 (.int 0) (.int 0) (.int 0) (.int 0) (.int 0) (.int 0) (.int 0) (.int 0) (.int 0) (.int 0) (.int (-1)) (.int 0) (.int 0) (.int 0) (.int 0) (.int 0) (.int 0) (.int 0) (.int 0) (.int 0) knF KF_0) kV_PinchedBillModel_259 0 rfl rfl rfl rfl hl.1 rfl (nle rfl) d_X9_count_67 ⟨by decide, by decide, by decide, by decide⟩) (fun r_3 w_4 H locs hw_2 hP hD hS => ?_)
    obtain ⟨rfl, rfl⟩ := hw_2
    have hP : va_P D vwCl [(h0, eO 9 [.ref k0, .ref k1, .ref k2, .ref k3, .int 0, .ref k5, .int 0, .int 0, .int 0, .int 0, .int 0, .int 0, .int 0, .int 0, .int 0, .int (-1), .int 0, .int 0, .int 0, .ref k19, .ref k20, .ref k21, .ref k22, .ref k23, .int 0, .ref k25, .ref k26, .ref k27, .int 0, .int 0, .ref k30, .ref k31, .int 0, .ref k33, .int 0, .int 0, .ref k36, .ref k37, .ref k38, .ref k39]), (k0, eI (ty 0) 1875 knF)] H := hP
    have hD : va_D A [(h0, eO 9 [.ref k0, .ref k1, .ref k2, .ref k3, .int 0, .ref k5, .int 0, .int 0, .int 0, .int 0, .int 0, .int 0, .int 0, .int 0, .int 0, .int (-1), .int 0, .int 0, .int 0, .ref k19, .ref k20, .ref k21, .ref k22, .ref k23, .int 0, .ref k25, .ref k26, .ref k27, .int 0, .int 0, .ref k30, .ref k31, .int 0, .ref k33, .int 0, .int 0, .ref k36, .ref k37, .ref k38, .ref k39]), (k0, eI (ty 0) 1875 knF)] := hD
    exact ret_I (w := []) C hP hD hS [] rfl rfl ⟨(Eq.symm (by decide)), rfl⟩ (by decide) (by decide) d_X9_count_70
  · refine lv_tableIn (tgt := 71) hx hb d_X9_count_6 (by decide) (by decide) (by rfl) (by decide) ?_
    refine lv_aload_n hx hb d_X9_count_71 rfl (lv_at hl 0 rfl) ?_
    refine r_get (v := .ref k0) C hP 0 rfl rfl lay_X9 0 (by decide) k_1545 rfl d_X9_count_72 ?_
    refine lv_bipush (v := 8) hx hb d_X9_count_75 (by decide) ?_
    refine r_iald (v := 0) C hP 1 rfl 8 rfl (by decide) (by decide) rfl d_X9_count_77 ?_
    exact ret_I (w := []) C hP hD hS [] rfl rfl ⟨(Eq.symm (by decide)), rfl⟩ (by decide) (by decide) d_X9_count_78
  · refine lv_tableIn (tgt := 79) hx hb d_X9_count_6 (by decide) (by decide) (by rfl) (by decide) ?_
    refine lv_aload_n hx hb d_X9_count_79 rfl (lv_at hl 0 rfl) ?_
    refine r_get (v := .ref k0) C hP 0 rfl rfl lay_X9 0 (by decide) k_1545 rfl d_X9_count_80 ?_
    refine lv_bipush (v := 8) hx hb d_X9_count_83 (by decide) ?_
    refine r_iald (v := 0) C hP 1 rfl 8 rfl (by decide) (by decide) rfl d_X9_count_85 ?_
    have ct_5 : Cut [(h0, eO 9 [.ref k0, .ref k1, .ref k2, .ref k3, .int 0, .ref k5, .int 0, .int 0, .int 0, .int 0, .int 0, .int 0, .int 0, .int 0, .int 0, .int (-1), .int 0, .int 0, .int 0, .ref k19, .ref k20, .ref k21, .ref k22, .ref k23, .int 0, .ref k25, .ref k26, .ref k27, .int 0, .int 0, .ref k30, .ref k31, .int 0, .ref k33, .int 0, .int 0, .ref k36, .ref k37, .ref k38, .ref k39]), (k0, eI (ty 0) 1875 knF)] [] [(h0, eO 9 [.ref k0, .ref k1, .ref k2, .ref k3, .int 0, .ref k5, .int 0, .int 0, .int 0, .int 0, .int 0, .int 0, .int 0, .int 0, .int 0, .int (-1), .int 0, .int 0, .int 0, .ref k19, .ref k20, .ref k21, .ref k22, .ref k23, .int 0, .ref k25, .ref k26, .ref k27, .int 0, .int 0, .ref k30, .ref k31, .int 0, .ref k33, .int 0, .int 0, .ref k36, .ref k37, .ref k38, .ref k39]), (k0, eI (ty 0) 1875 knF)] [] [0, 1] := ⟨rfl, rfl, rfl, rfl, by decide⟩
    refine cont_I C hP hD hS ct_5 (run_S (As := [.int 0]) (rest := []) C hP hD hS ct_5 (c_msize0 l D ty) kS_PinchedBillModel_343 rfl hl.1 rfl (nle rfl) d_X9_count_86 ⟨by decide, by decide, by decide, by decide⟩) (fun r_7 w_8 H locs hw_6 hP hD hS => ?_)
    obtain ⟨rfl, rfl⟩ := hw_6
    have hP : va_P D vwCl [(h0, eO 9 [.ref k0, .ref k1, .ref k2, .ref k3, .int 0, .ref k5, .int 0, .int 0, .int 0, .int 0, .int 0, .int 0, .int 0, .int 0, .int 0, .int (-1), .int 0, .int 0, .int 0, .ref k19, .ref k20, .ref k21, .ref k22, .ref k23, .int 0, .ref k25, .ref k26, .ref k27, .int 0, .int 0, .ref k30, .ref k31, .int 0, .ref k33, .int 0, .int 0, .ref k36, .ref k37, .ref k38, .ref k39]), (k0, eI (ty 0) 1875 knF)] H := hP
    have hD : va_D A [(h0, eO 9 [.ref k0, .ref k1, .ref k2, .ref k3, .int 0, .ref k5, .int 0, .int 0, .int 0, .int 0, .int 0, .int 0, .int 0, .int 0, .int 0, .int (-1), .int 0, .int 0, .int 0, .ref k19, .ref k20, .ref k21, .ref k22, .ref k23, .int 0, .ref k25, .ref k26, .ref k27, .int 0, .int 0, .ref k30, .ref k31, .int 0, .ref k33, .int 0, .int 0, .ref k36, .ref k37, .ref k38, .ref k39]), (k0, eI (ty 0) 1875 knF)] := hD
    exact ret_I (w := []) C hP hD hS [] rfl rfl ⟨(Eq.symm (by decide)), rfl⟩ (by decide) (by decide) d_X9_count_89
  · refine lv_tableIn (tgt := 90) hx hb d_X9_count_6 (by decide) (by decide) (by rfl) (by decide) ?_
    refine lv_aload_n hx hb d_X9_count_90 rfl (lv_at hl 0 rfl) ?_
    have ct_9 : Cut [(h0, eO 9 [.ref k0, .ref k1, .ref k2, .ref k3, .int 0, .ref k5, .int 0, .int 0, .int 0, .int 0, .int 0, .int 0, .int 0, .int 0, .int 0, .int (-1), .int 0, .int 0, .int 0, .ref k19, .ref k20, .ref k21, .ref k22, .ref k23, .int 0, .ref k25, .ref k26, .ref k27, .int 0, .int 0, .ref k30, .ref k31, .int 0, .ref k33, .int 0, .int 0, .ref k36, .ref k37, .ref k38, .ref k39]), (k0, eI (ty 0) 1875 knF)] [(h0, eO 9 [.ref k0, .ref k1, .ref k2, .ref k3, .int 0, .ref k5, .int 0, .int 0, .int 0, .int 0, .int 0, .int 0, .int 0, .int 0, .int 0, .int (-1), .int 0, .int 0, .int 0, .ref k19, .ref k20, .ref k21, .ref k22, .ref k23, .int 0, .ref k25, .ref k26, .ref k27, .int 0, .int 0, .ref k30, .ref k31, .int 0, .ref k33, .int 0, .int 0, .ref k36, .ref k37, .ref k38, .ref k39]), (k0, eI (ty 0) 1875 knF)] [] [0, 1] [] := ⟨rfl, rfl, rfl, rfl, by decide⟩
    refine cont_I C hP hD hS ct_9 (run_V (As := []) (rest := []) C hP hD hS ct_9 (c_mmany l D ty h0 k0 k1 k2 k3 k5 k19 k20 k21 k22 k23 k25 k26 k27 k30 k31 k33 k36 k37 k38 k39 (.int 0) (.int 0) (.int 0) (.int 0) (.int 0) (.int 0) (.int 0) (.int 0) (.int 0) (.int 0) (.int (-1)) (.int 0) (.int 0) (.int 0) (.int 0) (.int 0) (.int 0) (.int 0) (.int 0) (.int 0) knF KF_0) kV_PinchedBillModel_511 0 rfl rfl rfl rfl hl.1 rfl (nle rfl) d_X9_count_91 ⟨by decide, by decide, by decide, by decide⟩) (fun r_11 w_12 H locs hw_10 hP hD hS => ?_)
    obtain ⟨rfl, rfl⟩ := hw_10
    have hP : va_P D vwCl [(h0, eO 9 [.ref k0, .ref k1, .ref k2, .ref k3, .int 0, .ref k5, .int 0, .int 0, .int 0, .int 0, .int 0, .int 0, .int 0, .int 0, .int 0, .int (-1), .int 0, .int 0, .int 0, .ref k19, .ref k20, .ref k21, .ref k22, .ref k23, .int 0, .ref k25, .ref k26, .ref k27, .int 0, .int 0, .ref k30, .ref k31, .int 0, .ref k33, .int 0, .int 0, .ref k36, .ref k37, .ref k38, .ref k39]), (k0, eI (ty 0) 1875 knF)] H := hP
    have hD : va_D A [(h0, eO 9 [.ref k0, .ref k1, .ref k2, .ref k3, .int 0, .ref k5, .int 0, .int 0, .int 0, .int 0, .int 0, .int 0, .int 0, .int 0, .int 0, .int (-1), .int 0, .int 0, .int 0, .ref k19, .ref k20, .ref k21, .ref k22, .ref k23, .int 0, .ref k25, .ref k26, .ref k27, .int 0, .int 0, .ref k30, .ref k31, .int 0, .ref k33, .int 0, .int 0, .ref k36, .ref k37, .ref k38, .ref k39]), (k0, eI (ty 0) 1875 knF)] := hD
    exact ret_I (w := []) C hP hD hS [] rfl rfl ⟨(Eq.symm (by decide)), rfl⟩ (by decide) (by decide) d_X9_count_94
  · refine lv_tableIn (tgt := 95) hx hb d_X9_count_6 (by decide) (by decide) (by rfl) (by decide) ?_
    refine lv_aload_n hx hb d_X9_count_95 rfl (lv_at hl 0 rfl) ?_
    refine r_get (v := .ref k0) C hP 0 rfl rfl lay_X9 0 (by decide) k_1545 rfl d_X9_count_96 ?_
    refine lv_iconst (v := 5) hx hb d_X9_count_99 (by decide) ?_
    refine r_iald (v := 0) C hP 1 rfl 5 rfl (by decide) (by decide) rfl d_X9_count_100 ?_
    exact ret_I (w := []) C hP hD hS [] rfl rfl ⟨(Eq.symm (by decide)), rfl⟩ (by decide) (by decide) d_X9_count_101
  · refine lv_tableIn (tgt := 102) hx hb d_X9_count_6 (by decide) (by decide) (by rfl) (by decide) ?_
    refine lv_aload_n hx hb d_X9_count_102 rfl (lv_at hl 0 rfl) ?_
    refine r_get (v := .int 0) C hP 0 rfl rfl lay_X9 6 (by decide) k_1551 rfl d_X9_count_103 ?_
    exact ret_I (w := []) C hP hD hS [] rfl rfl ⟨(Eq.symm (by decide)), rfl⟩ (by decide) (by decide) d_X9_count_106
  · refine lv_tableOut (tgt := 107) hx hb d_X9_count_6 h8 (by decide) ?_
    refine lv_iconst (v := (-1)) hx hb d_X9_count_107 (by decide) ?_
    exact ret_I (w := []) C hP hD hS [] rfl rfl ⟨(Eq.symm (cN_out h8)), rfl⟩ (by decide) (by decide) d_X9_count_108
set_option maxHeartbeats 4000000 in
set_option maxRecDepth 100000 in
theorem m_feed (l : Launch) (D : va_G) (ty : Nat → ClassId) (h0 : Nat) (k0 : Nat) (k1 : Nat) (k2 : Nat) (k3 : Nat) (k5 : Nat) (k19 : Nat) (k20 : Nat) (k21 : Nat) (k22 : Nat) (k23 : Nat) (k25 : Nat) (k26 : Nat) (k27 : Nat) (k30 : Nat) (k31 : Nat) (k33 : Nat) (k36 : Nat) (k37 : Nat) (k38 : Nat) (k39 : Nat) (x1 : Int32) (x2 : Int32) (x3 : Int32) (x4 : Int32) (x5 : Int32) : CC l D ty ⟨"PinchedBillModel", "feed", "(IIIII)I"⟩ prog_11_method_7_code 8 (some .int) 0 0 0 0 [.ref h0, .int x1, .int x2, .int x3, .int x4, .int x5] [(h0, eO 9 [.ref k0, .ref k1, .ref k2, .ref k3, .int 0, .ref k5, .int 0, .int 0, .int 0, .int 0, .int 0, .int 0, .int 0, .int 0, .int 0, .int (-1), .int 0, .int 0, .int 0, .ref k19, .ref k20, .ref k21, .ref k22, .ref k23, .int 0, .ref k25, .ref k26, .ref k27, .int 0, .int 0, .ref k30, .ref k31, .int 0, .ref k33, .int 0, .int 0, .ref k36, .ref k37, .ref k38, .ref k39]), (k5, eI (ty 0) 900 (fun _ => 0))] (QI D ty (fun (r : Int32) (w : va_W) => 20 = r ∧ w = [])) := by
  refine CC_of (by decide) ?_
  intro p e s m below meth c A C hP hD hS
  obtain ⟨⟨hx, hb, hml, hown, hts⟩, hr, hlocks, hnm, hK, hE, hA, hZ⟩ := id C
  refine startW [.ref h0, .int x1, .int x2, .int x3, .int x4, .int x5] 8 (nle rfl) (lv := [(0, .ref h0), (1, .int x1), (2, .int x2), (3, .int x3), (4, .int x4), (5, .int x5)]) rfl (fun ls hl => ?_)
  refine lv_aload_n hx hb d_X9_feed_0 rfl (lv_at hl 0 rfl) ?_
  refine lv_iconst (v := 0) hx hb d_X9_feed_1 (by decide) ?_
  refine r_put (w := [(h0, eO 9 [.ref k0, .ref k1, .ref k2, .ref k3, .int 0, .ref k5, .int 0, .int 0, .int 0, .int 0, .int 0, .int 0, .int 0, .int 0, .int 0, .int (-1), .int 0, .int 0, .int 0, .ref k19, .ref k20, .ref k21, .ref k22, .ref k23, .int 0, .ref k25, .ref k26, .ref k27, .int 0, .int 0, .ref k30, .ref k31, .int 0, .ref k33, .int 0, .int 0, .ref k36, .ref k37, .ref k38, .ref k39]), (k5, eI (ty 0) 900 (fun _ => 0))]) C hP hD hS 0 rfl rfl lay_X9 tok_X9 nmo_X9 4 (by decide) k_1549 rfl rfl rfl (nle rfl) rfl d_X9_feed_2 (fun H locs hP hD hS => ?_)
  refine lv_aload_n hx hb d_X9_feed_5 rfl (lv_at hl 0 rfl) ?_
  refine r_get (v := .int 0) C hP 0 rfl rfl lay_X9 6 (by decide) k_1551 rfl d_X9_feed_6 ?_
  refine lv_bipush (v := 20) hx hb d_X9_feed_9 (by decide) ?_
  refine r_iadd (z := 20) C d_X9_feed_11 (by decide) ?_
  refine lv_sipush (v := 900) hx hb d_X9_feed_12 (by decide) ?_
  refine b_icmp_leT C 20 d_X9_feed_15 (by decide) (by decide) ?_
  refine lv_iconst (v := 0) hx hb d_X9_feed_20 (by decide) ?_
  refine lv_istore (lv' := [(6, .int 0), (0, .ref h0), (1, .int x1), (2, .int x2), (3, .int x3), (4, .int x4), (5, .int x5)]) hx hb d_X9_feed_21 hl (by decide) rfl (fun ls hl => ?_)
  refine lv_iload hx hb d_X9_feed_23 (lv_at hl 0 rfl) ?_
  refine lv_bipush (v := 20) hx hb d_X9_feed_25 (by decide) ?_
  refine b_icmp_geF C 120 d_X9_feed_27 (by decide) (by decide) ?_
  refine lv_iload hx hb d_X9_feed_30 (lv_at hl 0 rfl) ?_
  refine lv_iconst (v := 4) hx hb d_X9_feed_32 (by decide) ?_
  refine b_icmp_geF C 40 d_X9_feed_33 (by decide) (by decide) ?_
  refine lv_iload_n hx hb d_X9_feed_36 rfl (lv_at hl 2 rfl) ?_
  refine lv_goto (tgt := 76) hx hb d_X9_feed_37 (by decide) ?_
  refine lv_istore (lv' := [(7, .int x1), (6, .int 0), (0, .ref h0), (1, .int x1), (2, .int x2), (3, .int x3), (4, .int x4), (5, .int x5)]) hx hb d_X9_feed_76 hl (by decide) rfl (fun ls hl => ?_)
  refine lv_aload_n hx hb d_X9_feed_78 rfl (lv_at hl 2 rfl) ?_
  refine r_get (v := .ref k5) C hP 0 rfl rfl lay_X9 5 (by decide) k_1550 rfl d_X9_feed_79 ?_
  refine lv_aload_n hx hb d_X9_feed_82 rfl (lv_at hl 2 rfl) ?_
  refine r_get (v := .int 0) C hP 0 rfl rfl lay_X9 6 (by decide) k_1551 rfl d_X9_feed_83 ?_
  refine lv_iload hx hb d_X9_feed_86 (lv_at hl 0 rfl) ?_
  refine lv_bipush (v := 24) hx hb d_X9_feed_88 (by decide) ?_
  refine lv_bipush (v := 8) hx hb d_X9_feed_90 (by decide) ?_
  refine lv_iload hx hb d_X9_feed_92 (lv_at hl 1 rfl) ?_
  refine lv_iconst (v := 3) hx hb d_X9_feed_94 (by decide) ?_
  refine r_iand (z := 0) C d_X9_feed_95 (by decide) ?_
  refine r_imul (z := 0) C d_X9_feed_96 (by decide) ?_
  refine r_isub (z := 24) C d_X9_feed_97 (by decide) ?_
  refine lv_iushr (v := ((x1).toUInt32 >>> ((24 : Int32).toUInt32 &&& Int32.toUInt32 31)).toInt32) hx hb d_X9_feed_98 rfl ?_
  refine lv_sipush (v := 255) hx hb d_X9_feed_99 (by decide) ?_
  refine r_iand (z := (((x1).toUInt32 >>> ((24 : Int32).toUInt32 &&& Int32.toUInt32 31)).toInt32 &&& 255)) C d_X9_feed_102 rfl ?_
  refine r_iast (w := [(h0, eO 9 [.ref k0, .ref k1, .ref k2, .ref k3, .int 0, .ref k5, .int 0, .int 0, .int 0, .int 0, .int 0, .int 0, .int 0, .int 0, .int 0, .int (-1), .int 0, .int 0, .int 0, .ref k19, .ref k20, .ref k21, .ref k22, .ref k23, .int 0, .ref k25, .ref k26, .ref k27, .int 0, .int 0, .ref k30, .ref k31, .int 0, .ref k33, .int 0, .int 0, .ref k36, .ref k37, .ref k38, .ref k39]), (k5, eI (ty 0) 900 (upd (fun _ => 0) 0 (((x1).toUInt32 >>> ((24 : Int32).toUInt32 &&& Int32.toUInt32 31)).toInt32 &&& 255)))]) C hP hD hS 1 rfl 0 rfl (by decide) (by decide) rfl d_X9_feed_103 (fun H locs hP hD hS => ?_)
  refine lv_aload_n hx hb d_X9_feed_104 rfl (lv_at hl 2 rfl) ?_
  refine lv_dup hx hb d_X9_feed_105 rfl ?_
  refine r_get (v := .int 0) C hP 0 rfl rfl lay_X9 6 (by decide) k_1551 rfl d_X9_feed_106 ?_
  refine lv_iconst (v := 1) hx hb d_X9_feed_109 (by decide) ?_
  refine r_iadd (z := 1) C d_X9_feed_110 (by decide) ?_
  refine r_put (w := [(h0, eO 9 [.ref k0, .ref k1, .ref k2, .ref k3, .int 0, .ref k5, .int 1, .int 0, .int 0, .int 0, .int 0, .int 0, .int 0, .int 0, .int 0, .int (-1), .int 0, .int 0, .int 0, .ref k19, .ref k20, .ref k21, .ref k22, .ref k23, .int 0, .ref k25, .ref k26, .ref k27, .int 0, .int 0, .ref k30, .ref k31, .int 0, .ref k33, .int 0, .int 0, .ref k36, .ref k37, .ref k38, .ref k39]), (k5, eI (ty 0) 900 (upd (fun _ => 0) 0 (((x1).toUInt32 >>> ((24 : Int32).toUInt32 &&& Int32.toUInt32 31)).toInt32 &&& 255)))]) C hP hD hS 0 rfl rfl lay_X9 tok_X9 nmo_X9 6 (by decide) k_1551 rfl rfl rfl (nle rfl) rfl d_X9_feed_111 (fun H locs hP hD hS => ?_)
  refine lv_iinc (v := 1) (lv' := [(6, .int 1), (7, .int x1), (0, .ref h0), (1, .int x1), (2, .int x2), (3, .int x3), (4, .int x4), (5, .int x5)]) (k := 1) hx hb d_X9_feed_114 hl rfl (by decide) (by decide) rfl (fun ls hl => ?_)
  refine lv_goto (tgt := 23) hx hb d_X9_feed_117 (by decide) ?_
  obtain ⟨tg_1, htg_2⟩ : ∃ g9 : Nat → Int32, (upd (fun _ => 0) 0 (((x1).toUInt32 >>> ((24 : Int32).toUInt32 &&& Int32.toUInt32 31)).toInt32 &&& 255)) = g9 := ⟨_, rfl⟩
  rw [htg_2] at hP hD
  refine lv_iload hx hb d_X9_feed_23 (lv_at hl 0 rfl) ?_
  refine lv_bipush (v := 20) hx hb d_X9_feed_25 (by decide) ?_
  refine b_icmp_geF C 120 d_X9_feed_27 (by decide) (by decide) ?_
  refine lv_iload hx hb d_X9_feed_30 (lv_at hl 0 rfl) ?_
  refine lv_iconst (v := 4) hx hb d_X9_feed_32 (by decide) ?_
  refine b_icmp_geF C 40 d_X9_feed_33 (by decide) (by decide) ?_
  refine lv_iload_n hx hb d_X9_feed_36 rfl (lv_at hl 3 rfl) ?_
  refine lv_goto (tgt := 76) hx hb d_X9_feed_37 (by decide) ?_
  refine lv_istore (lv' := [(7, .int x1), (6, .int 1), (0, .ref h0), (1, .int x1), (2, .int x2), (3, .int x3), (4, .int x4), (5, .int x5)]) hx hb d_X9_feed_76 hl (by decide) rfl (fun ls hl => ?_)
  refine lv_aload_n hx hb d_X9_feed_78 rfl (lv_at hl 2 rfl) ?_
  refine r_get (v := .ref k5) C hP 0 rfl rfl lay_X9 5 (by decide) k_1550 rfl d_X9_feed_79 ?_
  refine lv_aload_n hx hb d_X9_feed_82 rfl (lv_at hl 2 rfl) ?_
  refine r_get (v := .int 1) C hP 0 rfl rfl lay_X9 6 (by decide) k_1551 rfl d_X9_feed_83 ?_
  refine lv_iload hx hb d_X9_feed_86 (lv_at hl 0 rfl) ?_
  refine lv_bipush (v := 24) hx hb d_X9_feed_88 (by decide) ?_
  refine lv_bipush (v := 8) hx hb d_X9_feed_90 (by decide) ?_
  refine lv_iload hx hb d_X9_feed_92 (lv_at hl 1 rfl) ?_
  refine lv_iconst (v := 3) hx hb d_X9_feed_94 (by decide) ?_
  refine r_iand (z := 1) C d_X9_feed_95 (by decide) ?_
  refine r_imul (z := 8) C d_X9_feed_96 (by decide) ?_
  refine r_isub (z := 16) C d_X9_feed_97 (by decide) ?_
  refine lv_iushr (v := ((x1).toUInt32 >>> ((16 : Int32).toUInt32 &&& Int32.toUInt32 31)).toInt32) hx hb d_X9_feed_98 rfl ?_
  refine lv_sipush (v := 255) hx hb d_X9_feed_99 (by decide) ?_
  refine r_iand (z := (((x1).toUInt32 >>> ((16 : Int32).toUInt32 &&& Int32.toUInt32 31)).toInt32 &&& 255)) C d_X9_feed_102 rfl ?_
  refine r_iast (w := [(h0, eO 9 [.ref k0, .ref k1, .ref k2, .ref k3, .int 0, .ref k5, .int 1, .int 0, .int 0, .int 0, .int 0, .int 0, .int 0, .int 0, .int 0, .int (-1), .int 0, .int 0, .int 0, .ref k19, .ref k20, .ref k21, .ref k22, .ref k23, .int 0, .ref k25, .ref k26, .ref k27, .int 0, .int 0, .ref k30, .ref k31, .int 0, .ref k33, .int 0, .int 0, .ref k36, .ref k37, .ref k38, .ref k39]), (k5, eI (ty 0) 900 (upd tg_1 1 (((x1).toUInt32 >>> ((16 : Int32).toUInt32 &&& Int32.toUInt32 31)).toInt32 &&& 255)))]) C hP hD hS 1 rfl 1 rfl (by decide) (by decide) rfl d_X9_feed_103 (fun H locs hP hD hS => ?_)
  refine lv_aload_n hx hb d_X9_feed_104 rfl (lv_at hl 2 rfl) ?_
  refine lv_dup hx hb d_X9_feed_105 rfl ?_
  refine r_get (v := .int 1) C hP 0 rfl rfl lay_X9 6 (by decide) k_1551 rfl d_X9_feed_106 ?_
  refine lv_iconst (v := 1) hx hb d_X9_feed_109 (by decide) ?_
  refine r_iadd (z := 2) C d_X9_feed_110 (by decide) ?_
  refine r_put (w := [(h0, eO 9 [.ref k0, .ref k1, .ref k2, .ref k3, .int 0, .ref k5, .int 2, .int 0, .int 0, .int 0, .int 0, .int 0, .int 0, .int 0, .int 0, .int (-1), .int 0, .int 0, .int 0, .ref k19, .ref k20, .ref k21, .ref k22, .ref k23, .int 0, .ref k25, .ref k26, .ref k27, .int 0, .int 0, .ref k30, .ref k31, .int 0, .ref k33, .int 0, .int 0, .ref k36, .ref k37, .ref k38, .ref k39]), (k5, eI (ty 0) 900 (upd tg_1 1 (((x1).toUInt32 >>> ((16 : Int32).toUInt32 &&& Int32.toUInt32 31)).toInt32 &&& 255)))]) C hP hD hS 0 rfl rfl lay_X9 tok_X9 nmo_X9 6 (by decide) k_1551 rfl rfl rfl (nle rfl) rfl d_X9_feed_111 (fun H locs hP hD hS => ?_)
  refine lv_iinc (v := 2) (lv' := [(6, .int 2), (7, .int x1), (0, .ref h0), (1, .int x1), (2, .int x2), (3, .int x3), (4, .int x4), (5, .int x5)]) (k := 1) hx hb d_X9_feed_114 hl rfl (by decide) (by decide) rfl (fun ls hl => ?_)
  refine lv_goto (tgt := 23) hx hb d_X9_feed_117 (by decide) ?_
  obtain ⟨tg_3, htg_4⟩ : ∃ g9 : Nat → Int32, (upd tg_1 1 (((x1).toUInt32 >>> ((16 : Int32).toUInt32 &&& Int32.toUInt32 31)).toInt32 &&& 255)) = g9 := ⟨_, rfl⟩
  rw [htg_4] at hP hD
  refine lv_iload hx hb d_X9_feed_23 (lv_at hl 0 rfl) ?_
  refine lv_bipush (v := 20) hx hb d_X9_feed_25 (by decide) ?_
  refine b_icmp_geF C 120 d_X9_feed_27 (by decide) (by decide) ?_
  refine lv_iload hx hb d_X9_feed_30 (lv_at hl 0 rfl) ?_
  refine lv_iconst (v := 4) hx hb d_X9_feed_32 (by decide) ?_
  refine b_icmp_geF C 40 d_X9_feed_33 (by decide) (by decide) ?_
  refine lv_iload_n hx hb d_X9_feed_36 rfl (lv_at hl 3 rfl) ?_
  refine lv_goto (tgt := 76) hx hb d_X9_feed_37 (by decide) ?_
  refine lv_istore (lv' := [(7, .int x1), (6, .int 2), (0, .ref h0), (1, .int x1), (2, .int x2), (3, .int x3), (4, .int x4), (5, .int x5)]) hx hb d_X9_feed_76 hl (by decide) rfl (fun ls hl => ?_)
  refine lv_aload_n hx hb d_X9_feed_78 rfl (lv_at hl 2 rfl) ?_
  refine r_get (v := .ref k5) C hP 0 rfl rfl lay_X9 5 (by decide) k_1550 rfl d_X9_feed_79 ?_
  refine lv_aload_n hx hb d_X9_feed_82 rfl (lv_at hl 2 rfl) ?_
  refine r_get (v := .int 2) C hP 0 rfl rfl lay_X9 6 (by decide) k_1551 rfl d_X9_feed_83 ?_
  refine lv_iload hx hb d_X9_feed_86 (lv_at hl 0 rfl) ?_
  refine lv_bipush (v := 24) hx hb d_X9_feed_88 (by decide) ?_
  refine lv_bipush (v := 8) hx hb d_X9_feed_90 (by decide) ?_
  refine lv_iload hx hb d_X9_feed_92 (lv_at hl 1 rfl) ?_
  refine lv_iconst (v := 3) hx hb d_X9_feed_94 (by decide) ?_
  refine r_iand (z := 2) C d_X9_feed_95 (by decide) ?_
  refine r_imul (z := 16) C d_X9_feed_96 (by decide) ?_
  refine r_isub (z := 8) C d_X9_feed_97 (by decide) ?_
  refine lv_iushr (v := ((x1).toUInt32 >>> ((8 : Int32).toUInt32 &&& Int32.toUInt32 31)).toInt32) hx hb d_X9_feed_98 rfl ?_
  refine lv_sipush (v := 255) hx hb d_X9_feed_99 (by decide) ?_
  refine r_iand (z := (((x1).toUInt32 >>> ((8 : Int32).toUInt32 &&& Int32.toUInt32 31)).toInt32 &&& 255)) C d_X9_feed_102 rfl ?_
  refine r_iast (w := [(h0, eO 9 [.ref k0, .ref k1, .ref k2, .ref k3, .int 0, .ref k5, .int 2, .int 0, .int 0, .int 0, .int 0, .int 0, .int 0, .int 0, .int 0, .int (-1), .int 0, .int 0, .int 0, .ref k19, .ref k20, .ref k21, .ref k22, .ref k23, .int 0, .ref k25, .ref k26, .ref k27, .int 0, .int 0, .ref k30, .ref k31, .int 0, .ref k33, .int 0, .int 0, .ref k36, .ref k37, .ref k38, .ref k39]), (k5, eI (ty 0) 900 (upd tg_3 2 (((x1).toUInt32 >>> ((8 : Int32).toUInt32 &&& Int32.toUInt32 31)).toInt32 &&& 255)))]) C hP hD hS 1 rfl 2 rfl (by decide) (by decide) rfl d_X9_feed_103 (fun H locs hP hD hS => ?_)
  refine lv_aload_n hx hb d_X9_feed_104 rfl (lv_at hl 2 rfl) ?_
  refine lv_dup hx hb d_X9_feed_105 rfl ?_
  refine r_get (v := .int 2) C hP 0 rfl rfl lay_X9 6 (by decide) k_1551 rfl d_X9_feed_106 ?_
  refine lv_iconst (v := 1) hx hb d_X9_feed_109 (by decide) ?_
  refine r_iadd (z := 3) C d_X9_feed_110 (by decide) ?_
  refine r_put (w := [(h0, eO 9 [.ref k0, .ref k1, .ref k2, .ref k3, .int 0, .ref k5, .int 3, .int 0, .int 0, .int 0, .int 0, .int 0, .int 0, .int 0, .int 0, .int (-1), .int 0, .int 0, .int 0, .ref k19, .ref k20, .ref k21, .ref k22, .ref k23, .int 0, .ref k25, .ref k26, .ref k27, .int 0, .int 0, .ref k30, .ref k31, .int 0, .ref k33, .int 0, .int 0, .ref k36, .ref k37, .ref k38, .ref k39]), (k5, eI (ty 0) 900 (upd tg_3 2 (((x1).toUInt32 >>> ((8 : Int32).toUInt32 &&& Int32.toUInt32 31)).toInt32 &&& 255)))]) C hP hD hS 0 rfl rfl lay_X9 tok_X9 nmo_X9 6 (by decide) k_1551 rfl rfl rfl (nle rfl) rfl d_X9_feed_111 (fun H locs hP hD hS => ?_)
  refine lv_iinc (v := 3) (lv' := [(6, .int 3), (7, .int x1), (0, .ref h0), (1, .int x1), (2, .int x2), (3, .int x3), (4, .int x4), (5, .int x5)]) (k := 1) hx hb d_X9_feed_114 hl rfl (by decide) (by decide) rfl (fun ls hl => ?_)
  refine lv_goto (tgt := 23) hx hb d_X9_feed_117 (by decide) ?_
  obtain ⟨tg_5, htg_6⟩ : ∃ g9 : Nat → Int32, (upd tg_3 2 (((x1).toUInt32 >>> ((8 : Int32).toUInt32 &&& Int32.toUInt32 31)).toInt32 &&& 255)) = g9 := ⟨_, rfl⟩
  rw [htg_6] at hP hD
  refine lv_iload hx hb d_X9_feed_23 (lv_at hl 0 rfl) ?_
  refine lv_bipush (v := 20) hx hb d_X9_feed_25 (by decide) ?_
  refine b_icmp_geF C 120 d_X9_feed_27 (by decide) (by decide) ?_
  refine lv_iload hx hb d_X9_feed_30 (lv_at hl 0 rfl) ?_
  refine lv_iconst (v := 4) hx hb d_X9_feed_32 (by decide) ?_
  refine b_icmp_geF C 40 d_X9_feed_33 (by decide) (by decide) ?_
  refine lv_iload_n hx hb d_X9_feed_36 rfl (lv_at hl 3 rfl) ?_
  refine lv_goto (tgt := 76) hx hb d_X9_feed_37 (by decide) ?_
  refine lv_istore (lv' := [(7, .int x1), (6, .int 3), (0, .ref h0), (1, .int x1), (2, .int x2), (3, .int x3), (4, .int x4), (5, .int x5)]) hx hb d_X9_feed_76 hl (by decide) rfl (fun ls hl => ?_)
  refine lv_aload_n hx hb d_X9_feed_78 rfl (lv_at hl 2 rfl) ?_
  refine r_get (v := .ref k5) C hP 0 rfl rfl lay_X9 5 (by decide) k_1550 rfl d_X9_feed_79 ?_
  refine lv_aload_n hx hb d_X9_feed_82 rfl (lv_at hl 2 rfl) ?_
  refine r_get (v := .int 3) C hP 0 rfl rfl lay_X9 6 (by decide) k_1551 rfl d_X9_feed_83 ?_
  refine lv_iload hx hb d_X9_feed_86 (lv_at hl 0 rfl) ?_
  refine lv_bipush (v := 24) hx hb d_X9_feed_88 (by decide) ?_
  refine lv_bipush (v := 8) hx hb d_X9_feed_90 (by decide) ?_
  refine lv_iload hx hb d_X9_feed_92 (lv_at hl 1 rfl) ?_
  refine lv_iconst (v := 3) hx hb d_X9_feed_94 (by decide) ?_
  refine r_iand (z := 3) C d_X9_feed_95 (by decide) ?_
  refine r_imul (z := 24) C d_X9_feed_96 (by decide) ?_
  refine r_isub (z := 0) C d_X9_feed_97 (by decide) ?_
  refine lv_iushr (v := ((x1).toUInt32 >>> ((0 : Int32).toUInt32 &&& Int32.toUInt32 31)).toInt32) hx hb d_X9_feed_98 rfl ?_
  refine lv_sipush (v := 255) hx hb d_X9_feed_99 (by decide) ?_
  refine r_iand (z := (((x1).toUInt32 >>> ((0 : Int32).toUInt32 &&& Int32.toUInt32 31)).toInt32 &&& 255)) C d_X9_feed_102 rfl ?_
  refine r_iast (w := [(h0, eO 9 [.ref k0, .ref k1, .ref k2, .ref k3, .int 0, .ref k5, .int 3, .int 0, .int 0, .int 0, .int 0, .int 0, .int 0, .int 0, .int 0, .int (-1), .int 0, .int 0, .int 0, .ref k19, .ref k20, .ref k21, .ref k22, .ref k23, .int 0, .ref k25, .ref k26, .ref k27, .int 0, .int 0, .ref k30, .ref k31, .int 0, .ref k33, .int 0, .int 0, .ref k36, .ref k37, .ref k38, .ref k39]), (k5, eI (ty 0) 900 (upd tg_5 3 (((x1).toUInt32 >>> ((0 : Int32).toUInt32 &&& Int32.toUInt32 31)).toInt32 &&& 255)))]) C hP hD hS 1 rfl 3 rfl (by decide) (by decide) rfl d_X9_feed_103 (fun H locs hP hD hS => ?_)
  refine lv_aload_n hx hb d_X9_feed_104 rfl (lv_at hl 2 rfl) ?_
  refine lv_dup hx hb d_X9_feed_105 rfl ?_
  refine r_get (v := .int 3) C hP 0 rfl rfl lay_X9 6 (by decide) k_1551 rfl d_X9_feed_106 ?_
  refine lv_iconst (v := 1) hx hb d_X9_feed_109 (by decide) ?_
  refine r_iadd (z := 4) C d_X9_feed_110 (by decide) ?_
  refine r_put (w := [(h0, eO 9 [.ref k0, .ref k1, .ref k2, .ref k3, .int 0, .ref k5, .int 4, .int 0, .int 0, .int 0, .int 0, .int 0, .int 0, .int 0, .int 0, .int (-1), .int 0, .int 0, .int 0, .ref k19, .ref k20, .ref k21, .ref k22, .ref k23, .int 0, .ref k25, .ref k26, .ref k27, .int 0, .int 0, .ref k30, .ref k31, .int 0, .ref k33, .int 0, .int 0, .ref k36, .ref k37, .ref k38, .ref k39]), (k5, eI (ty 0) 900 (upd tg_5 3 (((x1).toUInt32 >>> ((0 : Int32).toUInt32 &&& Int32.toUInt32 31)).toInt32 &&& 255)))]) C hP hD hS 0 rfl rfl lay_X9 tok_X9 nmo_X9 6 (by decide) k_1551 rfl rfl rfl (nle rfl) rfl d_X9_feed_111 (fun H locs hP hD hS => ?_)
  refine lv_iinc (v := 4) (lv' := [(6, .int 4), (7, .int x1), (0, .ref h0), (1, .int x1), (2, .int x2), (3, .int x3), (4, .int x4), (5, .int x5)]) (k := 1) hx hb d_X9_feed_114 hl rfl (by decide) (by decide) rfl (fun ls hl => ?_)
  refine lv_goto (tgt := 23) hx hb d_X9_feed_117 (by decide) ?_
  obtain ⟨tg_7, htg_8⟩ : ∃ g9 : Nat → Int32, (upd tg_5 3 (((x1).toUInt32 >>> ((0 : Int32).toUInt32 &&& Int32.toUInt32 31)).toInt32 &&& 255)) = g9 := ⟨_, rfl⟩
  rw [htg_8] at hP hD
  refine lv_iload hx hb d_X9_feed_23 (lv_at hl 0 rfl) ?_
  refine lv_bipush (v := 20) hx hb d_X9_feed_25 (by decide) ?_
  refine b_icmp_geF C 120 d_X9_feed_27 (by decide) (by decide) ?_
  refine lv_iload hx hb d_X9_feed_30 (lv_at hl 0 rfl) ?_
  refine lv_iconst (v := 4) hx hb d_X9_feed_32 (by decide) ?_
  refine b_icmp_geT C 40 d_X9_feed_33 (by decide) (by decide) ?_
  refine lv_iload hx hb d_X9_feed_40 (lv_at hl 0 rfl) ?_
  refine lv_bipush (v := 8) hx hb d_X9_feed_42 (by decide) ?_
  refine b_icmp_geF C 51 d_X9_feed_44 (by decide) (by decide) ?_
  refine lv_iload_n hx hb d_X9_feed_47 rfl (lv_at hl 4 rfl) ?_
  refine lv_goto (tgt := 76) hx hb d_X9_feed_48 (by decide) ?_
  refine lv_istore (lv' := [(7, .int x2), (6, .int 4), (0, .ref h0), (1, .int x1), (2, .int x2), (3, .int x3), (4, .int x4), (5, .int x5)]) hx hb d_X9_feed_76 hl (by decide) rfl (fun ls hl => ?_)
  refine lv_aload_n hx hb d_X9_feed_78 rfl (lv_at hl 2 rfl) ?_
  refine r_get (v := .ref k5) C hP 0 rfl rfl lay_X9 5 (by decide) k_1550 rfl d_X9_feed_79 ?_
  refine lv_aload_n hx hb d_X9_feed_82 rfl (lv_at hl 2 rfl) ?_
  refine r_get (v := .int 4) C hP 0 rfl rfl lay_X9 6 (by decide) k_1551 rfl d_X9_feed_83 ?_
  refine lv_iload hx hb d_X9_feed_86 (lv_at hl 0 rfl) ?_
  refine lv_bipush (v := 24) hx hb d_X9_feed_88 (by decide) ?_
  refine lv_bipush (v := 8) hx hb d_X9_feed_90 (by decide) ?_
  refine lv_iload hx hb d_X9_feed_92 (lv_at hl 1 rfl) ?_
  refine lv_iconst (v := 3) hx hb d_X9_feed_94 (by decide) ?_
  refine r_iand (z := 0) C d_X9_feed_95 (by decide) ?_
  refine r_imul (z := 0) C d_X9_feed_96 (by decide) ?_
  refine r_isub (z := 24) C d_X9_feed_97 (by decide) ?_
  refine lv_iushr (v := ((x2).toUInt32 >>> ((24 : Int32).toUInt32 &&& Int32.toUInt32 31)).toInt32) hx hb d_X9_feed_98 rfl ?_
  refine lv_sipush (v := 255) hx hb d_X9_feed_99 (by decide) ?_
  refine r_iand (z := (((x2).toUInt32 >>> ((24 : Int32).toUInt32 &&& Int32.toUInt32 31)).toInt32 &&& 255)) C d_X9_feed_102 rfl ?_
  refine r_iast (w := [(h0, eO 9 [.ref k0, .ref k1, .ref k2, .ref k3, .int 0, .ref k5, .int 4, .int 0, .int 0, .int 0, .int 0, .int 0, .int 0, .int 0, .int 0, .int (-1), .int 0, .int 0, .int 0, .ref k19, .ref k20, .ref k21, .ref k22, .ref k23, .int 0, .ref k25, .ref k26, .ref k27, .int 0, .int 0, .ref k30, .ref k31, .int 0, .ref k33, .int 0, .int 0, .ref k36, .ref k37, .ref k38, .ref k39]), (k5, eI (ty 0) 900 (upd tg_7 4 (((x2).toUInt32 >>> ((24 : Int32).toUInt32 &&& Int32.toUInt32 31)).toInt32 &&& 255)))]) C hP hD hS 1 rfl 4 rfl (by decide) (by decide) rfl d_X9_feed_103 (fun H locs hP hD hS => ?_)
  refine lv_aload_n hx hb d_X9_feed_104 rfl (lv_at hl 2 rfl) ?_
  refine lv_dup hx hb d_X9_feed_105 rfl ?_
  refine r_get (v := .int 4) C hP 0 rfl rfl lay_X9 6 (by decide) k_1551 rfl d_X9_feed_106 ?_
  refine lv_iconst (v := 1) hx hb d_X9_feed_109 (by decide) ?_
  refine r_iadd (z := 5) C d_X9_feed_110 (by decide) ?_
  refine r_put (w := [(h0, eO 9 [.ref k0, .ref k1, .ref k2, .ref k3, .int 0, .ref k5, .int 5, .int 0, .int 0, .int 0, .int 0, .int 0, .int 0, .int 0, .int 0, .int (-1), .int 0, .int 0, .int 0, .ref k19, .ref k20, .ref k21, .ref k22, .ref k23, .int 0, .ref k25, .ref k26, .ref k27, .int 0, .int 0, .ref k30, .ref k31, .int 0, .ref k33, .int 0, .int 0, .ref k36, .ref k37, .ref k38, .ref k39]), (k5, eI (ty 0) 900 (upd tg_7 4 (((x2).toUInt32 >>> ((24 : Int32).toUInt32 &&& Int32.toUInt32 31)).toInt32 &&& 255)))]) C hP hD hS 0 rfl rfl lay_X9 tok_X9 nmo_X9 6 (by decide) k_1551 rfl rfl rfl (nle rfl) rfl d_X9_feed_111 (fun H locs hP hD hS => ?_)
  refine lv_iinc (v := 5) (lv' := [(6, .int 5), (7, .int x2), (0, .ref h0), (1, .int x1), (2, .int x2), (3, .int x3), (4, .int x4), (5, .int x5)]) (k := 1) hx hb d_X9_feed_114 hl rfl (by decide) (by decide) rfl (fun ls hl => ?_)
  refine lv_goto (tgt := 23) hx hb d_X9_feed_117 (by decide) ?_
  obtain ⟨tg_9, htg_10⟩ : ∃ g9 : Nat → Int32, (upd tg_7 4 (((x2).toUInt32 >>> ((24 : Int32).toUInt32 &&& Int32.toUInt32 31)).toInt32 &&& 255)) = g9 := ⟨_, rfl⟩
  rw [htg_10] at hP hD
  refine lv_iload hx hb d_X9_feed_23 (lv_at hl 0 rfl) ?_
  refine lv_bipush (v := 20) hx hb d_X9_feed_25 (by decide) ?_
  refine b_icmp_geF C 120 d_X9_feed_27 (by decide) (by decide) ?_
  refine lv_iload hx hb d_X9_feed_30 (lv_at hl 0 rfl) ?_
  refine lv_iconst (v := 4) hx hb d_X9_feed_32 (by decide) ?_
  refine b_icmp_geT C 40 d_X9_feed_33 (by decide) (by decide) ?_
  refine lv_iload hx hb d_X9_feed_40 (lv_at hl 0 rfl) ?_
  refine lv_bipush (v := 8) hx hb d_X9_feed_42 (by decide) ?_
  refine b_icmp_geF C 51 d_X9_feed_44 (by decide) (by decide) ?_
  refine lv_iload_n hx hb d_X9_feed_47 rfl (lv_at hl 4 rfl) ?_
  refine lv_goto (tgt := 76) hx hb d_X9_feed_48 (by decide) ?_
  refine lv_istore (lv' := [(7, .int x2), (6, .int 5), (0, .ref h0), (1, .int x1), (2, .int x2), (3, .int x3), (4, .int x4), (5, .int x5)]) hx hb d_X9_feed_76 hl (by decide) rfl (fun ls hl => ?_)
  refine lv_aload_n hx hb d_X9_feed_78 rfl (lv_at hl 2 rfl) ?_
  refine r_get (v := .ref k5) C hP 0 rfl rfl lay_X9 5 (by decide) k_1550 rfl d_X9_feed_79 ?_
  refine lv_aload_n hx hb d_X9_feed_82 rfl (lv_at hl 2 rfl) ?_
  refine r_get (v := .int 5) C hP 0 rfl rfl lay_X9 6 (by decide) k_1551 rfl d_X9_feed_83 ?_
  refine lv_iload hx hb d_X9_feed_86 (lv_at hl 0 rfl) ?_
  refine lv_bipush (v := 24) hx hb d_X9_feed_88 (by decide) ?_
  refine lv_bipush (v := 8) hx hb d_X9_feed_90 (by decide) ?_
  refine lv_iload hx hb d_X9_feed_92 (lv_at hl 1 rfl) ?_
  refine lv_iconst (v := 3) hx hb d_X9_feed_94 (by decide) ?_
  refine r_iand (z := 1) C d_X9_feed_95 (by decide) ?_
  refine r_imul (z := 8) C d_X9_feed_96 (by decide) ?_
  refine r_isub (z := 16) C d_X9_feed_97 (by decide) ?_
  refine lv_iushr (v := ((x2).toUInt32 >>> ((16 : Int32).toUInt32 &&& Int32.toUInt32 31)).toInt32) hx hb d_X9_feed_98 rfl ?_
  refine lv_sipush (v := 255) hx hb d_X9_feed_99 (by decide) ?_
  refine r_iand (z := (((x2).toUInt32 >>> ((16 : Int32).toUInt32 &&& Int32.toUInt32 31)).toInt32 &&& 255)) C d_X9_feed_102 rfl ?_
  refine r_iast (w := [(h0, eO 9 [.ref k0, .ref k1, .ref k2, .ref k3, .int 0, .ref k5, .int 5, .int 0, .int 0, .int 0, .int 0, .int 0, .int 0, .int 0, .int 0, .int (-1), .int 0, .int 0, .int 0, .ref k19, .ref k20, .ref k21, .ref k22, .ref k23, .int 0, .ref k25, .ref k26, .ref k27, .int 0, .int 0, .ref k30, .ref k31, .int 0, .ref k33, .int 0, .int 0, .ref k36, .ref k37, .ref k38, .ref k39]), (k5, eI (ty 0) 900 (upd tg_9 5 (((x2).toUInt32 >>> ((16 : Int32).toUInt32 &&& Int32.toUInt32 31)).toInt32 &&& 255)))]) C hP hD hS 1 rfl 5 rfl (by decide) (by decide) rfl d_X9_feed_103 (fun H locs hP hD hS => ?_)
  refine lv_aload_n hx hb d_X9_feed_104 rfl (lv_at hl 2 rfl) ?_
  refine lv_dup hx hb d_X9_feed_105 rfl ?_
  refine r_get (v := .int 5) C hP 0 rfl rfl lay_X9 6 (by decide) k_1551 rfl d_X9_feed_106 ?_
  refine lv_iconst (v := 1) hx hb d_X9_feed_109 (by decide) ?_
  refine r_iadd (z := 6) C d_X9_feed_110 (by decide) ?_
  refine r_put (w := [(h0, eO 9 [.ref k0, .ref k1, .ref k2, .ref k3, .int 0, .ref k5, .int 6, .int 0, .int 0, .int 0, .int 0, .int 0, .int 0, .int 0, .int 0, .int (-1), .int 0, .int 0, .int 0, .ref k19, .ref k20, .ref k21, .ref k22, .ref k23, .int 0, .ref k25, .ref k26, .ref k27, .int 0, .int 0, .ref k30, .ref k31, .int 0, .ref k33, .int 0, .int 0, .ref k36, .ref k37, .ref k38, .ref k39]), (k5, eI (ty 0) 900 (upd tg_9 5 (((x2).toUInt32 >>> ((16 : Int32).toUInt32 &&& Int32.toUInt32 31)).toInt32 &&& 255)))]) C hP hD hS 0 rfl rfl lay_X9 tok_X9 nmo_X9 6 (by decide) k_1551 rfl rfl rfl (nle rfl) rfl d_X9_feed_111 (fun H locs hP hD hS => ?_)
  refine lv_iinc (v := 6) (lv' := [(6, .int 6), (7, .int x2), (0, .ref h0), (1, .int x1), (2, .int x2), (3, .int x3), (4, .int x4), (5, .int x5)]) (k := 1) hx hb d_X9_feed_114 hl rfl (by decide) (by decide) rfl (fun ls hl => ?_)
  refine lv_goto (tgt := 23) hx hb d_X9_feed_117 (by decide) ?_
  obtain ⟨tg_11, htg_12⟩ : ∃ g9 : Nat → Int32, (upd tg_9 5 (((x2).toUInt32 >>> ((16 : Int32).toUInt32 &&& Int32.toUInt32 31)).toInt32 &&& 255)) = g9 := ⟨_, rfl⟩
  rw [htg_12] at hP hD
  refine lv_iload hx hb d_X9_feed_23 (lv_at hl 0 rfl) ?_
  refine lv_bipush (v := 20) hx hb d_X9_feed_25 (by decide) ?_
  refine b_icmp_geF C 120 d_X9_feed_27 (by decide) (by decide) ?_
  refine lv_iload hx hb d_X9_feed_30 (lv_at hl 0 rfl) ?_
  refine lv_iconst (v := 4) hx hb d_X9_feed_32 (by decide) ?_
  refine b_icmp_geT C 40 d_X9_feed_33 (by decide) (by decide) ?_
  refine lv_iload hx hb d_X9_feed_40 (lv_at hl 0 rfl) ?_
  refine lv_bipush (v := 8) hx hb d_X9_feed_42 (by decide) ?_
  refine b_icmp_geF C 51 d_X9_feed_44 (by decide) (by decide) ?_
  refine lv_iload_n hx hb d_X9_feed_47 rfl (lv_at hl 4 rfl) ?_
  refine lv_goto (tgt := 76) hx hb d_X9_feed_48 (by decide) ?_
  refine lv_istore (lv' := [(7, .int x2), (6, .int 6), (0, .ref h0), (1, .int x1), (2, .int x2), (3, .int x3), (4, .int x4), (5, .int x5)]) hx hb d_X9_feed_76 hl (by decide) rfl (fun ls hl => ?_)
  refine lv_aload_n hx hb d_X9_feed_78 rfl (lv_at hl 2 rfl) ?_
  refine r_get (v := .ref k5) C hP 0 rfl rfl lay_X9 5 (by decide) k_1550 rfl d_X9_feed_79 ?_
  refine lv_aload_n hx hb d_X9_feed_82 rfl (lv_at hl 2 rfl) ?_
  refine r_get (v := .int 6) C hP 0 rfl rfl lay_X9 6 (by decide) k_1551 rfl d_X9_feed_83 ?_
  refine lv_iload hx hb d_X9_feed_86 (lv_at hl 0 rfl) ?_
  refine lv_bipush (v := 24) hx hb d_X9_feed_88 (by decide) ?_
  refine lv_bipush (v := 8) hx hb d_X9_feed_90 (by decide) ?_
  refine lv_iload hx hb d_X9_feed_92 (lv_at hl 1 rfl) ?_
  refine lv_iconst (v := 3) hx hb d_X9_feed_94 (by decide) ?_
  refine r_iand (z := 2) C d_X9_feed_95 (by decide) ?_
  refine r_imul (z := 16) C d_X9_feed_96 (by decide) ?_
  refine r_isub (z := 8) C d_X9_feed_97 (by decide) ?_
  refine lv_iushr (v := ((x2).toUInt32 >>> ((8 : Int32).toUInt32 &&& Int32.toUInt32 31)).toInt32) hx hb d_X9_feed_98 rfl ?_
  refine lv_sipush (v := 255) hx hb d_X9_feed_99 (by decide) ?_
  refine r_iand (z := (((x2).toUInt32 >>> ((8 : Int32).toUInt32 &&& Int32.toUInt32 31)).toInt32 &&& 255)) C d_X9_feed_102 rfl ?_
  refine r_iast (w := [(h0, eO 9 [.ref k0, .ref k1, .ref k2, .ref k3, .int 0, .ref k5, .int 6, .int 0, .int 0, .int 0, .int 0, .int 0, .int 0, .int 0, .int 0, .int (-1), .int 0, .int 0, .int 0, .ref k19, .ref k20, .ref k21, .ref k22, .ref k23, .int 0, .ref k25, .ref k26, .ref k27, .int 0, .int 0, .ref k30, .ref k31, .int 0, .ref k33, .int 0, .int 0, .ref k36, .ref k37, .ref k38, .ref k39]), (k5, eI (ty 0) 900 (upd tg_11 6 (((x2).toUInt32 >>> ((8 : Int32).toUInt32 &&& Int32.toUInt32 31)).toInt32 &&& 255)))]) C hP hD hS 1 rfl 6 rfl (by decide) (by decide) rfl d_X9_feed_103 (fun H locs hP hD hS => ?_)
  refine lv_aload_n hx hb d_X9_feed_104 rfl (lv_at hl 2 rfl) ?_
  refine lv_dup hx hb d_X9_feed_105 rfl ?_
  refine r_get (v := .int 6) C hP 0 rfl rfl lay_X9 6 (by decide) k_1551 rfl d_X9_feed_106 ?_
  refine lv_iconst (v := 1) hx hb d_X9_feed_109 (by decide) ?_
  refine r_iadd (z := 7) C d_X9_feed_110 (by decide) ?_
  refine r_put (w := [(h0, eO 9 [.ref k0, .ref k1, .ref k2, .ref k3, .int 0, .ref k5, .int 7, .int 0, .int 0, .int 0, .int 0, .int 0, .int 0, .int 0, .int 0, .int (-1), .int 0, .int 0, .int 0, .ref k19, .ref k20, .ref k21, .ref k22, .ref k23, .int 0, .ref k25, .ref k26, .ref k27, .int 0, .int 0, .ref k30, .ref k31, .int 0, .ref k33, .int 0, .int 0, .ref k36, .ref k37, .ref k38, .ref k39]), (k5, eI (ty 0) 900 (upd tg_11 6 (((x2).toUInt32 >>> ((8 : Int32).toUInt32 &&& Int32.toUInt32 31)).toInt32 &&& 255)))]) C hP hD hS 0 rfl rfl lay_X9 tok_X9 nmo_X9 6 (by decide) k_1551 rfl rfl rfl (nle rfl) rfl d_X9_feed_111 (fun H locs hP hD hS => ?_)
  refine lv_iinc (v := 7) (lv' := [(6, .int 7), (7, .int x2), (0, .ref h0), (1, .int x1), (2, .int x2), (3, .int x3), (4, .int x4), (5, .int x5)]) (k := 1) hx hb d_X9_feed_114 hl rfl (by decide) (by decide) rfl (fun ls hl => ?_)
  refine lv_goto (tgt := 23) hx hb d_X9_feed_117 (by decide) ?_
  obtain ⟨tg_13, htg_14⟩ : ∃ g9 : Nat → Int32, (upd tg_11 6 (((x2).toUInt32 >>> ((8 : Int32).toUInt32 &&& Int32.toUInt32 31)).toInt32 &&& 255)) = g9 := ⟨_, rfl⟩
  rw [htg_14] at hP hD
  refine lv_iload hx hb d_X9_feed_23 (lv_at hl 0 rfl) ?_
  refine lv_bipush (v := 20) hx hb d_X9_feed_25 (by decide) ?_
  refine b_icmp_geF C 120 d_X9_feed_27 (by decide) (by decide) ?_
  refine lv_iload hx hb d_X9_feed_30 (lv_at hl 0 rfl) ?_
  refine lv_iconst (v := 4) hx hb d_X9_feed_32 (by decide) ?_
  refine b_icmp_geT C 40 d_X9_feed_33 (by decide) (by decide) ?_
  refine lv_iload hx hb d_X9_feed_40 (lv_at hl 0 rfl) ?_
  refine lv_bipush (v := 8) hx hb d_X9_feed_42 (by decide) ?_
  refine b_icmp_geF C 51 d_X9_feed_44 (by decide) (by decide) ?_
  refine lv_iload_n hx hb d_X9_feed_47 rfl (lv_at hl 4 rfl) ?_
  refine lv_goto (tgt := 76) hx hb d_X9_feed_48 (by decide) ?_
  refine lv_istore (lv' := [(7, .int x2), (6, .int 7), (0, .ref h0), (1, .int x1), (2, .int x2), (3, .int x3), (4, .int x4), (5, .int x5)]) hx hb d_X9_feed_76 hl (by decide) rfl (fun ls hl => ?_)
  refine lv_aload_n hx hb d_X9_feed_78 rfl (lv_at hl 2 rfl) ?_
  refine r_get (v := .ref k5) C hP 0 rfl rfl lay_X9 5 (by decide) k_1550 rfl d_X9_feed_79 ?_
  refine lv_aload_n hx hb d_X9_feed_82 rfl (lv_at hl 2 rfl) ?_
  refine r_get (v := .int 7) C hP 0 rfl rfl lay_X9 6 (by decide) k_1551 rfl d_X9_feed_83 ?_
  refine lv_iload hx hb d_X9_feed_86 (lv_at hl 0 rfl) ?_
  refine lv_bipush (v := 24) hx hb d_X9_feed_88 (by decide) ?_
  refine lv_bipush (v := 8) hx hb d_X9_feed_90 (by decide) ?_
  refine lv_iload hx hb d_X9_feed_92 (lv_at hl 1 rfl) ?_
  refine lv_iconst (v := 3) hx hb d_X9_feed_94 (by decide) ?_
  refine r_iand (z := 3) C d_X9_feed_95 (by decide) ?_
  refine r_imul (z := 24) C d_X9_feed_96 (by decide) ?_
  refine r_isub (z := 0) C d_X9_feed_97 (by decide) ?_
  refine lv_iushr (v := ((x2).toUInt32 >>> ((0 : Int32).toUInt32 &&& Int32.toUInt32 31)).toInt32) hx hb d_X9_feed_98 rfl ?_
  refine lv_sipush (v := 255) hx hb d_X9_feed_99 (by decide) ?_
  refine r_iand (z := (((x2).toUInt32 >>> ((0 : Int32).toUInt32 &&& Int32.toUInt32 31)).toInt32 &&& 255)) C d_X9_feed_102 rfl ?_
  refine r_iast (w := [(h0, eO 9 [.ref k0, .ref k1, .ref k2, .ref k3, .int 0, .ref k5, .int 7, .int 0, .int 0, .int 0, .int 0, .int 0, .int 0, .int 0, .int 0, .int (-1), .int 0, .int 0, .int 0, .ref k19, .ref k20, .ref k21, .ref k22, .ref k23, .int 0, .ref k25, .ref k26, .ref k27, .int 0, .int 0, .ref k30, .ref k31, .int 0, .ref k33, .int 0, .int 0, .ref k36, .ref k37, .ref k38, .ref k39]), (k5, eI (ty 0) 900 (upd tg_13 7 (((x2).toUInt32 >>> ((0 : Int32).toUInt32 &&& Int32.toUInt32 31)).toInt32 &&& 255)))]) C hP hD hS 1 rfl 7 rfl (by decide) (by decide) rfl d_X9_feed_103 (fun H locs hP hD hS => ?_)
  refine lv_aload_n hx hb d_X9_feed_104 rfl (lv_at hl 2 rfl) ?_
  refine lv_dup hx hb d_X9_feed_105 rfl ?_
  refine r_get (v := .int 7) C hP 0 rfl rfl lay_X9 6 (by decide) k_1551 rfl d_X9_feed_106 ?_
  refine lv_iconst (v := 1) hx hb d_X9_feed_109 (by decide) ?_
  refine r_iadd (z := 8) C d_X9_feed_110 (by decide) ?_
  refine r_put (w := [(h0, eO 9 [.ref k0, .ref k1, .ref k2, .ref k3, .int 0, .ref k5, .int 8, .int 0, .int 0, .int 0, .int 0, .int 0, .int 0, .int 0, .int 0, .int (-1), .int 0, .int 0, .int 0, .ref k19, .ref k20, .ref k21, .ref k22, .ref k23, .int 0, .ref k25, .ref k26, .ref k27, .int 0, .int 0, .ref k30, .ref k31, .int 0, .ref k33, .int 0, .int 0, .ref k36, .ref k37, .ref k38, .ref k39]), (k5, eI (ty 0) 900 (upd tg_13 7 (((x2).toUInt32 >>> ((0 : Int32).toUInt32 &&& Int32.toUInt32 31)).toInt32 &&& 255)))]) C hP hD hS 0 rfl rfl lay_X9 tok_X9 nmo_X9 6 (by decide) k_1551 rfl rfl rfl (nle rfl) rfl d_X9_feed_111 (fun H locs hP hD hS => ?_)
  refine lv_iinc (v := 8) (lv' := [(6, .int 8), (7, .int x2), (0, .ref h0), (1, .int x1), (2, .int x2), (3, .int x3), (4, .int x4), (5, .int x5)]) (k := 1) hx hb d_X9_feed_114 hl rfl (by decide) (by decide) rfl (fun ls hl => ?_)
  refine lv_goto (tgt := 23) hx hb d_X9_feed_117 (by decide) ?_
  obtain ⟨tg_15, htg_16⟩ : ∃ g9 : Nat → Int32, (upd tg_13 7 (((x2).toUInt32 >>> ((0 : Int32).toUInt32 &&& Int32.toUInt32 31)).toInt32 &&& 255)) = g9 := ⟨_, rfl⟩
  rw [htg_16] at hP hD
  refine lv_iload hx hb d_X9_feed_23 (lv_at hl 0 rfl) ?_
  refine lv_bipush (v := 20) hx hb d_X9_feed_25 (by decide) ?_
  refine b_icmp_geF C 120 d_X9_feed_27 (by decide) (by decide) ?_
  refine lv_iload hx hb d_X9_feed_30 (lv_at hl 0 rfl) ?_
  refine lv_iconst (v := 4) hx hb d_X9_feed_32 (by decide) ?_
  refine b_icmp_geT C 40 d_X9_feed_33 (by decide) (by decide) ?_
  refine lv_iload hx hb d_X9_feed_40 (lv_at hl 0 rfl) ?_
  refine lv_bipush (v := 8) hx hb d_X9_feed_42 (by decide) ?_
  refine b_icmp_geT C 51 d_X9_feed_44 (by decide) (by decide) ?_
  refine lv_iload hx hb d_X9_feed_51 (lv_at hl 0 rfl) ?_
  refine lv_bipush (v := 12) hx hb d_X9_feed_53 (by decide) ?_
  refine b_icmp_geF C 62 d_X9_feed_55 (by decide) (by decide) ?_
  refine lv_iload_n hx hb d_X9_feed_58 rfl (lv_at hl 5 rfl) ?_
  refine lv_goto (tgt := 76) hx hb d_X9_feed_59 (by decide) ?_
  refine lv_istore (lv' := [(7, .int x3), (6, .int 8), (0, .ref h0), (1, .int x1), (2, .int x2), (3, .int x3), (4, .int x4), (5, .int x5)]) hx hb d_X9_feed_76 hl (by decide) rfl (fun ls hl => ?_)
  refine lv_aload_n hx hb d_X9_feed_78 rfl (lv_at hl 2 rfl) ?_
  refine r_get (v := .ref k5) C hP 0 rfl rfl lay_X9 5 (by decide) k_1550 rfl d_X9_feed_79 ?_
  refine lv_aload_n hx hb d_X9_feed_82 rfl (lv_at hl 2 rfl) ?_
  refine r_get (v := .int 8) C hP 0 rfl rfl lay_X9 6 (by decide) k_1551 rfl d_X9_feed_83 ?_
  refine lv_iload hx hb d_X9_feed_86 (lv_at hl 0 rfl) ?_
  refine lv_bipush (v := 24) hx hb d_X9_feed_88 (by decide) ?_
  refine lv_bipush (v := 8) hx hb d_X9_feed_90 (by decide) ?_
  refine lv_iload hx hb d_X9_feed_92 (lv_at hl 1 rfl) ?_
  refine lv_iconst (v := 3) hx hb d_X9_feed_94 (by decide) ?_
  refine r_iand (z := 0) C d_X9_feed_95 (by decide) ?_
  refine r_imul (z := 0) C d_X9_feed_96 (by decide) ?_
  refine r_isub (z := 24) C d_X9_feed_97 (by decide) ?_
  refine lv_iushr (v := ((x3).toUInt32 >>> ((24 : Int32).toUInt32 &&& Int32.toUInt32 31)).toInt32) hx hb d_X9_feed_98 rfl ?_
  refine lv_sipush (v := 255) hx hb d_X9_feed_99 (by decide) ?_
  refine r_iand (z := (((x3).toUInt32 >>> ((24 : Int32).toUInt32 &&& Int32.toUInt32 31)).toInt32 &&& 255)) C d_X9_feed_102 rfl ?_
  refine r_iast (w := [(h0, eO 9 [.ref k0, .ref k1, .ref k2, .ref k3, .int 0, .ref k5, .int 8, .int 0, .int 0, .int 0, .int 0, .int 0, .int 0, .int 0, .int 0, .int (-1), .int 0, .int 0, .int 0, .ref k19, .ref k20, .ref k21, .ref k22, .ref k23, .int 0, .ref k25, .ref k26, .ref k27, .int 0, .int 0, .ref k30, .ref k31, .int 0, .ref k33, .int 0, .int 0, .ref k36, .ref k37, .ref k38, .ref k39]), (k5, eI (ty 0) 900 (upd tg_15 8 (((x3).toUInt32 >>> ((24 : Int32).toUInt32 &&& Int32.toUInt32 31)).toInt32 &&& 255)))]) C hP hD hS 1 rfl 8 rfl (by decide) (by decide) rfl d_X9_feed_103 (fun H locs hP hD hS => ?_)
  refine lv_aload_n hx hb d_X9_feed_104 rfl (lv_at hl 2 rfl) ?_
  refine lv_dup hx hb d_X9_feed_105 rfl ?_
  refine r_get (v := .int 8) C hP 0 rfl rfl lay_X9 6 (by decide) k_1551 rfl d_X9_feed_106 ?_
  refine lv_iconst (v := 1) hx hb d_X9_feed_109 (by decide) ?_
  refine r_iadd (z := 9) C d_X9_feed_110 (by decide) ?_
  refine r_put (w := [(h0, eO 9 [.ref k0, .ref k1, .ref k2, .ref k3, .int 0, .ref k5, .int 9, .int 0, .int 0, .int 0, .int 0, .int 0, .int 0, .int 0, .int 0, .int (-1), .int 0, .int 0, .int 0, .ref k19, .ref k20, .ref k21, .ref k22, .ref k23, .int 0, .ref k25, .ref k26, .ref k27, .int 0, .int 0, .ref k30, .ref k31, .int 0, .ref k33, .int 0, .int 0, .ref k36, .ref k37, .ref k38, .ref k39]), (k5, eI (ty 0) 900 (upd tg_15 8 (((x3).toUInt32 >>> ((24 : Int32).toUInt32 &&& Int32.toUInt32 31)).toInt32 &&& 255)))]) C hP hD hS 0 rfl rfl lay_X9 tok_X9 nmo_X9 6 (by decide) k_1551 rfl rfl rfl (nle rfl) rfl d_X9_feed_111 (fun H locs hP hD hS => ?_)
  refine lv_iinc (v := 9) (lv' := [(6, .int 9), (7, .int x3), (0, .ref h0), (1, .int x1), (2, .int x2), (3, .int x3), (4, .int x4), (5, .int x5)]) (k := 1) hx hb d_X9_feed_114 hl rfl (by decide) (by decide) rfl (fun ls hl => ?_)
  refine lv_goto (tgt := 23) hx hb d_X9_feed_117 (by decide) ?_
  obtain ⟨tg_17, htg_18⟩ : ∃ g9 : Nat → Int32, (upd tg_15 8 (((x3).toUInt32 >>> ((24 : Int32).toUInt32 &&& Int32.toUInt32 31)).toInt32 &&& 255)) = g9 := ⟨_, rfl⟩
  rw [htg_18] at hP hD
  refine lv_iload hx hb d_X9_feed_23 (lv_at hl 0 rfl) ?_
  refine lv_bipush (v := 20) hx hb d_X9_feed_25 (by decide) ?_
  refine b_icmp_geF C 120 d_X9_feed_27 (by decide) (by decide) ?_
  refine lv_iload hx hb d_X9_feed_30 (lv_at hl 0 rfl) ?_
  refine lv_iconst (v := 4) hx hb d_X9_feed_32 (by decide) ?_
  refine b_icmp_geT C 40 d_X9_feed_33 (by decide) (by decide) ?_
  refine lv_iload hx hb d_X9_feed_40 (lv_at hl 0 rfl) ?_
  refine lv_bipush (v := 8) hx hb d_X9_feed_42 (by decide) ?_
  refine b_icmp_geT C 51 d_X9_feed_44 (by decide) (by decide) ?_
  refine lv_iload hx hb d_X9_feed_51 (lv_at hl 0 rfl) ?_
  refine lv_bipush (v := 12) hx hb d_X9_feed_53 (by decide) ?_
  refine b_icmp_geF C 62 d_X9_feed_55 (by decide) (by decide) ?_
  refine lv_iload_n hx hb d_X9_feed_58 rfl (lv_at hl 5 rfl) ?_
  refine lv_goto (tgt := 76) hx hb d_X9_feed_59 (by decide) ?_
  refine lv_istore (lv' := [(7, .int x3), (6, .int 9), (0, .ref h0), (1, .int x1), (2, .int x2), (3, .int x3), (4, .int x4), (5, .int x5)]) hx hb d_X9_feed_76 hl (by decide) rfl (fun ls hl => ?_)
  refine lv_aload_n hx hb d_X9_feed_78 rfl (lv_at hl 2 rfl) ?_
  refine r_get (v := .ref k5) C hP 0 rfl rfl lay_X9 5 (by decide) k_1550 rfl d_X9_feed_79 ?_
  refine lv_aload_n hx hb d_X9_feed_82 rfl (lv_at hl 2 rfl) ?_
  refine r_get (v := .int 9) C hP 0 rfl rfl lay_X9 6 (by decide) k_1551 rfl d_X9_feed_83 ?_
  refine lv_iload hx hb d_X9_feed_86 (lv_at hl 0 rfl) ?_
  refine lv_bipush (v := 24) hx hb d_X9_feed_88 (by decide) ?_
  refine lv_bipush (v := 8) hx hb d_X9_feed_90 (by decide) ?_
  refine lv_iload hx hb d_X9_feed_92 (lv_at hl 1 rfl) ?_
  refine lv_iconst (v := 3) hx hb d_X9_feed_94 (by decide) ?_
  refine r_iand (z := 1) C d_X9_feed_95 (by decide) ?_
  refine r_imul (z := 8) C d_X9_feed_96 (by decide) ?_
  refine r_isub (z := 16) C d_X9_feed_97 (by decide) ?_
  refine lv_iushr (v := ((x3).toUInt32 >>> ((16 : Int32).toUInt32 &&& Int32.toUInt32 31)).toInt32) hx hb d_X9_feed_98 rfl ?_
  refine lv_sipush (v := 255) hx hb d_X9_feed_99 (by decide) ?_
  refine r_iand (z := (((x3).toUInt32 >>> ((16 : Int32).toUInt32 &&& Int32.toUInt32 31)).toInt32 &&& 255)) C d_X9_feed_102 rfl ?_
  refine r_iast (w := [(h0, eO 9 [.ref k0, .ref k1, .ref k2, .ref k3, .int 0, .ref k5, .int 9, .int 0, .int 0, .int 0, .int 0, .int 0, .int 0, .int 0, .int 0, .int (-1), .int 0, .int 0, .int 0, .ref k19, .ref k20, .ref k21, .ref k22, .ref k23, .int 0, .ref k25, .ref k26, .ref k27, .int 0, .int 0, .ref k30, .ref k31, .int 0, .ref k33, .int 0, .int 0, .ref k36, .ref k37, .ref k38, .ref k39]), (k5, eI (ty 0) 900 (upd tg_17 9 (((x3).toUInt32 >>> ((16 : Int32).toUInt32 &&& Int32.toUInt32 31)).toInt32 &&& 255)))]) C hP hD hS 1 rfl 9 rfl (by decide) (by decide) rfl d_X9_feed_103 (fun H locs hP hD hS => ?_)
  refine lv_aload_n hx hb d_X9_feed_104 rfl (lv_at hl 2 rfl) ?_
  refine lv_dup hx hb d_X9_feed_105 rfl ?_
  refine r_get (v := .int 9) C hP 0 rfl rfl lay_X9 6 (by decide) k_1551 rfl d_X9_feed_106 ?_
  refine lv_iconst (v := 1) hx hb d_X9_feed_109 (by decide) ?_
  refine r_iadd (z := 10) C d_X9_feed_110 (by decide) ?_
  refine r_put (w := [(h0, eO 9 [.ref k0, .ref k1, .ref k2, .ref k3, .int 0, .ref k5, .int 10, .int 0, .int 0, .int 0, .int 0, .int 0, .int 0, .int 0, .int 0, .int (-1), .int 0, .int 0, .int 0, .ref k19, .ref k20, .ref k21, .ref k22, .ref k23, .int 0, .ref k25, .ref k26, .ref k27, .int 0, .int 0, .ref k30, .ref k31, .int 0, .ref k33, .int 0, .int 0, .ref k36, .ref k37, .ref k38, .ref k39]), (k5, eI (ty 0) 900 (upd tg_17 9 (((x3).toUInt32 >>> ((16 : Int32).toUInt32 &&& Int32.toUInt32 31)).toInt32 &&& 255)))]) C hP hD hS 0 rfl rfl lay_X9 tok_X9 nmo_X9 6 (by decide) k_1551 rfl rfl rfl (nle rfl) rfl d_X9_feed_111 (fun H locs hP hD hS => ?_)
  refine lv_iinc (v := 10) (lv' := [(6, .int 10), (7, .int x3), (0, .ref h0), (1, .int x1), (2, .int x2), (3, .int x3), (4, .int x4), (5, .int x5)]) (k := 1) hx hb d_X9_feed_114 hl rfl (by decide) (by decide) rfl (fun ls hl => ?_)
  refine lv_goto (tgt := 23) hx hb d_X9_feed_117 (by decide) ?_
  obtain ⟨tg_19, htg_20⟩ : ∃ g9 : Nat → Int32, (upd tg_17 9 (((x3).toUInt32 >>> ((16 : Int32).toUInt32 &&& Int32.toUInt32 31)).toInt32 &&& 255)) = g9 := ⟨_, rfl⟩
  rw [htg_20] at hP hD
  refine lv_iload hx hb d_X9_feed_23 (lv_at hl 0 rfl) ?_
  refine lv_bipush (v := 20) hx hb d_X9_feed_25 (by decide) ?_
  refine b_icmp_geF C 120 d_X9_feed_27 (by decide) (by decide) ?_
  refine lv_iload hx hb d_X9_feed_30 (lv_at hl 0 rfl) ?_
  refine lv_iconst (v := 4) hx hb d_X9_feed_32 (by decide) ?_
  refine b_icmp_geT C 40 d_X9_feed_33 (by decide) (by decide) ?_
  refine lv_iload hx hb d_X9_feed_40 (lv_at hl 0 rfl) ?_
  refine lv_bipush (v := 8) hx hb d_X9_feed_42 (by decide) ?_
  refine b_icmp_geT C 51 d_X9_feed_44 (by decide) (by decide) ?_
  refine lv_iload hx hb d_X9_feed_51 (lv_at hl 0 rfl) ?_
  refine lv_bipush (v := 12) hx hb d_X9_feed_53 (by decide) ?_
  refine b_icmp_geF C 62 d_X9_feed_55 (by decide) (by decide) ?_
  refine lv_iload_n hx hb d_X9_feed_58 rfl (lv_at hl 5 rfl) ?_
  refine lv_goto (tgt := 76) hx hb d_X9_feed_59 (by decide) ?_
  refine lv_istore (lv' := [(7, .int x3), (6, .int 10), (0, .ref h0), (1, .int x1), (2, .int x2), (3, .int x3), (4, .int x4), (5, .int x5)]) hx hb d_X9_feed_76 hl (by decide) rfl (fun ls hl => ?_)
  refine lv_aload_n hx hb d_X9_feed_78 rfl (lv_at hl 2 rfl) ?_
  refine r_get (v := .ref k5) C hP 0 rfl rfl lay_X9 5 (by decide) k_1550 rfl d_X9_feed_79 ?_
  refine lv_aload_n hx hb d_X9_feed_82 rfl (lv_at hl 2 rfl) ?_
  refine r_get (v := .int 10) C hP 0 rfl rfl lay_X9 6 (by decide) k_1551 rfl d_X9_feed_83 ?_
  refine lv_iload hx hb d_X9_feed_86 (lv_at hl 0 rfl) ?_
  refine lv_bipush (v := 24) hx hb d_X9_feed_88 (by decide) ?_
  refine lv_bipush (v := 8) hx hb d_X9_feed_90 (by decide) ?_
  refine lv_iload hx hb d_X9_feed_92 (lv_at hl 1 rfl) ?_
  refine lv_iconst (v := 3) hx hb d_X9_feed_94 (by decide) ?_
  refine r_iand (z := 2) C d_X9_feed_95 (by decide) ?_
  refine r_imul (z := 16) C d_X9_feed_96 (by decide) ?_
  refine r_isub (z := 8) C d_X9_feed_97 (by decide) ?_
  refine lv_iushr (v := ((x3).toUInt32 >>> ((8 : Int32).toUInt32 &&& Int32.toUInt32 31)).toInt32) hx hb d_X9_feed_98 rfl ?_
  refine lv_sipush (v := 255) hx hb d_X9_feed_99 (by decide) ?_
  refine r_iand (z := (((x3).toUInt32 >>> ((8 : Int32).toUInt32 &&& Int32.toUInt32 31)).toInt32 &&& 255)) C d_X9_feed_102 rfl ?_
  refine r_iast (w := [(h0, eO 9 [.ref k0, .ref k1, .ref k2, .ref k3, .int 0, .ref k5, .int 10, .int 0, .int 0, .int 0, .int 0, .int 0, .int 0, .int 0, .int 0, .int (-1), .int 0, .int 0, .int 0, .ref k19, .ref k20, .ref k21, .ref k22, .ref k23, .int 0, .ref k25, .ref k26, .ref k27, .int 0, .int 0, .ref k30, .ref k31, .int 0, .ref k33, .int 0, .int 0, .ref k36, .ref k37, .ref k38, .ref k39]), (k5, eI (ty 0) 900 (upd tg_19 10 (((x3).toUInt32 >>> ((8 : Int32).toUInt32 &&& Int32.toUInt32 31)).toInt32 &&& 255)))]) C hP hD hS 1 rfl 10 rfl (by decide) (by decide) rfl d_X9_feed_103 (fun H locs hP hD hS => ?_)
  refine lv_aload_n hx hb d_X9_feed_104 rfl (lv_at hl 2 rfl) ?_
  refine lv_dup hx hb d_X9_feed_105 rfl ?_
  refine r_get (v := .int 10) C hP 0 rfl rfl lay_X9 6 (by decide) k_1551 rfl d_X9_feed_106 ?_
  refine lv_iconst (v := 1) hx hb d_X9_feed_109 (by decide) ?_
  refine r_iadd (z := 11) C d_X9_feed_110 (by decide) ?_
  refine r_put (w := [(h0, eO 9 [.ref k0, .ref k1, .ref k2, .ref k3, .int 0, .ref k5, .int 11, .int 0, .int 0, .int 0, .int 0, .int 0, .int 0, .int 0, .int 0, .int (-1), .int 0, .int 0, .int 0, .ref k19, .ref k20, .ref k21, .ref k22, .ref k23, .int 0, .ref k25, .ref k26, .ref k27, .int 0, .int 0, .ref k30, .ref k31, .int 0, .ref k33, .int 0, .int 0, .ref k36, .ref k37, .ref k38, .ref k39]), (k5, eI (ty 0) 900 (upd tg_19 10 (((x3).toUInt32 >>> ((8 : Int32).toUInt32 &&& Int32.toUInt32 31)).toInt32 &&& 255)))]) C hP hD hS 0 rfl rfl lay_X9 tok_X9 nmo_X9 6 (by decide) k_1551 rfl rfl rfl (nle rfl) rfl d_X9_feed_111 (fun H locs hP hD hS => ?_)
  refine lv_iinc (v := 11) (lv' := [(6, .int 11), (7, .int x3), (0, .ref h0), (1, .int x1), (2, .int x2), (3, .int x3), (4, .int x4), (5, .int x5)]) (k := 1) hx hb d_X9_feed_114 hl rfl (by decide) (by decide) rfl (fun ls hl => ?_)
  refine lv_goto (tgt := 23) hx hb d_X9_feed_117 (by decide) ?_
  obtain ⟨tg_21, htg_22⟩ : ∃ g9 : Nat → Int32, (upd tg_19 10 (((x3).toUInt32 >>> ((8 : Int32).toUInt32 &&& Int32.toUInt32 31)).toInt32 &&& 255)) = g9 := ⟨_, rfl⟩
  rw [htg_22] at hP hD
  refine lv_iload hx hb d_X9_feed_23 (lv_at hl 0 rfl) ?_
  refine lv_bipush (v := 20) hx hb d_X9_feed_25 (by decide) ?_
  refine b_icmp_geF C 120 d_X9_feed_27 (by decide) (by decide) ?_
  refine lv_iload hx hb d_X9_feed_30 (lv_at hl 0 rfl) ?_
  refine lv_iconst (v := 4) hx hb d_X9_feed_32 (by decide) ?_
  refine b_icmp_geT C 40 d_X9_feed_33 (by decide) (by decide) ?_
  refine lv_iload hx hb d_X9_feed_40 (lv_at hl 0 rfl) ?_
  refine lv_bipush (v := 8) hx hb d_X9_feed_42 (by decide) ?_
  refine b_icmp_geT C 51 d_X9_feed_44 (by decide) (by decide) ?_
  refine lv_iload hx hb d_X9_feed_51 (lv_at hl 0 rfl) ?_
  refine lv_bipush (v := 12) hx hb d_X9_feed_53 (by decide) ?_
  refine b_icmp_geF C 62 d_X9_feed_55 (by decide) (by decide) ?_
  refine lv_iload_n hx hb d_X9_feed_58 rfl (lv_at hl 5 rfl) ?_
  refine lv_goto (tgt := 76) hx hb d_X9_feed_59 (by decide) ?_
  refine lv_istore (lv' := [(7, .int x3), (6, .int 11), (0, .ref h0), (1, .int x1), (2, .int x2), (3, .int x3), (4, .int x4), (5, .int x5)]) hx hb d_X9_feed_76 hl (by decide) rfl (fun ls hl => ?_)
  refine lv_aload_n hx hb d_X9_feed_78 rfl (lv_at hl 2 rfl) ?_
  refine r_get (v := .ref k5) C hP 0 rfl rfl lay_X9 5 (by decide) k_1550 rfl d_X9_feed_79 ?_
  refine lv_aload_n hx hb d_X9_feed_82 rfl (lv_at hl 2 rfl) ?_
  refine r_get (v := .int 11) C hP 0 rfl rfl lay_X9 6 (by decide) k_1551 rfl d_X9_feed_83 ?_
  refine lv_iload hx hb d_X9_feed_86 (lv_at hl 0 rfl) ?_
  refine lv_bipush (v := 24) hx hb d_X9_feed_88 (by decide) ?_
  refine lv_bipush (v := 8) hx hb d_X9_feed_90 (by decide) ?_
  refine lv_iload hx hb d_X9_feed_92 (lv_at hl 1 rfl) ?_
  refine lv_iconst (v := 3) hx hb d_X9_feed_94 (by decide) ?_
  refine r_iand (z := 3) C d_X9_feed_95 (by decide) ?_
  refine r_imul (z := 24) C d_X9_feed_96 (by decide) ?_
  refine r_isub (z := 0) C d_X9_feed_97 (by decide) ?_
  refine lv_iushr (v := ((x3).toUInt32 >>> ((0 : Int32).toUInt32 &&& Int32.toUInt32 31)).toInt32) hx hb d_X9_feed_98 rfl ?_
  refine lv_sipush (v := 255) hx hb d_X9_feed_99 (by decide) ?_
  refine r_iand (z := (((x3).toUInt32 >>> ((0 : Int32).toUInt32 &&& Int32.toUInt32 31)).toInt32 &&& 255)) C d_X9_feed_102 rfl ?_
  refine r_iast (w := [(h0, eO 9 [.ref k0, .ref k1, .ref k2, .ref k3, .int 0, .ref k5, .int 11, .int 0, .int 0, .int 0, .int 0, .int 0, .int 0, .int 0, .int 0, .int (-1), .int 0, .int 0, .int 0, .ref k19, .ref k20, .ref k21, .ref k22, .ref k23, .int 0, .ref k25, .ref k26, .ref k27, .int 0, .int 0, .ref k30, .ref k31, .int 0, .ref k33, .int 0, .int 0, .ref k36, .ref k37, .ref k38, .ref k39]), (k5, eI (ty 0) 900 (upd tg_21 11 (((x3).toUInt32 >>> ((0 : Int32).toUInt32 &&& Int32.toUInt32 31)).toInt32 &&& 255)))]) C hP hD hS 1 rfl 11 rfl (by decide) (by decide) rfl d_X9_feed_103 (fun H locs hP hD hS => ?_)
  refine lv_aload_n hx hb d_X9_feed_104 rfl (lv_at hl 2 rfl) ?_
  refine lv_dup hx hb d_X9_feed_105 rfl ?_
  refine r_get (v := .int 11) C hP 0 rfl rfl lay_X9 6 (by decide) k_1551 rfl d_X9_feed_106 ?_
  refine lv_iconst (v := 1) hx hb d_X9_feed_109 (by decide) ?_
  refine r_iadd (z := 12) C d_X9_feed_110 (by decide) ?_
  refine r_put (w := [(h0, eO 9 [.ref k0, .ref k1, .ref k2, .ref k3, .int 0, .ref k5, .int 12, .int 0, .int 0, .int 0, .int 0, .int 0, .int 0, .int 0, .int 0, .int (-1), .int 0, .int 0, .int 0, .ref k19, .ref k20, .ref k21, .ref k22, .ref k23, .int 0, .ref k25, .ref k26, .ref k27, .int 0, .int 0, .ref k30, .ref k31, .int 0, .ref k33, .int 0, .int 0, .ref k36, .ref k37, .ref k38, .ref k39]), (k5, eI (ty 0) 900 (upd tg_21 11 (((x3).toUInt32 >>> ((0 : Int32).toUInt32 &&& Int32.toUInt32 31)).toInt32 &&& 255)))]) C hP hD hS 0 rfl rfl lay_X9 tok_X9 nmo_X9 6 (by decide) k_1551 rfl rfl rfl (nle rfl) rfl d_X9_feed_111 (fun H locs hP hD hS => ?_)
  refine lv_iinc (v := 12) (lv' := [(6, .int 12), (7, .int x3), (0, .ref h0), (1, .int x1), (2, .int x2), (3, .int x3), (4, .int x4), (5, .int x5)]) (k := 1) hx hb d_X9_feed_114 hl rfl (by decide) (by decide) rfl (fun ls hl => ?_)
  refine lv_goto (tgt := 23) hx hb d_X9_feed_117 (by decide) ?_
  obtain ⟨tg_23, htg_24⟩ : ∃ g9 : Nat → Int32, (upd tg_21 11 (((x3).toUInt32 >>> ((0 : Int32).toUInt32 &&& Int32.toUInt32 31)).toInt32 &&& 255)) = g9 := ⟨_, rfl⟩
  rw [htg_24] at hP hD
  refine lv_iload hx hb d_X9_feed_23 (lv_at hl 0 rfl) ?_
  refine lv_bipush (v := 20) hx hb d_X9_feed_25 (by decide) ?_
  refine b_icmp_geF C 120 d_X9_feed_27 (by decide) (by decide) ?_
  refine lv_iload hx hb d_X9_feed_30 (lv_at hl 0 rfl) ?_
  refine lv_iconst (v := 4) hx hb d_X9_feed_32 (by decide) ?_
  refine b_icmp_geT C 40 d_X9_feed_33 (by decide) (by decide) ?_
  refine lv_iload hx hb d_X9_feed_40 (lv_at hl 0 rfl) ?_
  refine lv_bipush (v := 8) hx hb d_X9_feed_42 (by decide) ?_
  refine b_icmp_geT C 51 d_X9_feed_44 (by decide) (by decide) ?_
  refine lv_iload hx hb d_X9_feed_51 (lv_at hl 0 rfl) ?_
  refine lv_bipush (v := 12) hx hb d_X9_feed_53 (by decide) ?_
  refine b_icmp_geT C 62 d_X9_feed_55 (by decide) (by decide) ?_
  refine lv_iload hx hb d_X9_feed_62 (lv_at hl 0 rfl) ?_
  refine lv_bipush (v := 16) hx hb d_X9_feed_64 (by decide) ?_
  refine b_icmp_geF C 74 d_X9_feed_66 (by decide) (by decide) ?_
  refine lv_iload hx hb d_X9_feed_69 (lv_at hl 6 rfl) ?_
  refine lv_goto (tgt := 76) hx hb d_X9_feed_71 (by decide) ?_
  refine lv_istore (lv' := [(7, .int x4), (6, .int 12), (0, .ref h0), (1, .int x1), (2, .int x2), (3, .int x3), (4, .int x4), (5, .int x5)]) hx hb d_X9_feed_76 hl (by decide) rfl (fun ls hl => ?_)
  refine lv_aload_n hx hb d_X9_feed_78 rfl (lv_at hl 2 rfl) ?_
  refine r_get (v := .ref k5) C hP 0 rfl rfl lay_X9 5 (by decide) k_1550 rfl d_X9_feed_79 ?_
  refine lv_aload_n hx hb d_X9_feed_82 rfl (lv_at hl 2 rfl) ?_
  refine r_get (v := .int 12) C hP 0 rfl rfl lay_X9 6 (by decide) k_1551 rfl d_X9_feed_83 ?_
  refine lv_iload hx hb d_X9_feed_86 (lv_at hl 0 rfl) ?_
  refine lv_bipush (v := 24) hx hb d_X9_feed_88 (by decide) ?_
  refine lv_bipush (v := 8) hx hb d_X9_feed_90 (by decide) ?_
  refine lv_iload hx hb d_X9_feed_92 (lv_at hl 1 rfl) ?_
  refine lv_iconst (v := 3) hx hb d_X9_feed_94 (by decide) ?_
  refine r_iand (z := 0) C d_X9_feed_95 (by decide) ?_
  refine r_imul (z := 0) C d_X9_feed_96 (by decide) ?_
  refine r_isub (z := 24) C d_X9_feed_97 (by decide) ?_
  refine lv_iushr (v := ((x4).toUInt32 >>> ((24 : Int32).toUInt32 &&& Int32.toUInt32 31)).toInt32) hx hb d_X9_feed_98 rfl ?_
  refine lv_sipush (v := 255) hx hb d_X9_feed_99 (by decide) ?_
  refine r_iand (z := (((x4).toUInt32 >>> ((24 : Int32).toUInt32 &&& Int32.toUInt32 31)).toInt32 &&& 255)) C d_X9_feed_102 rfl ?_
  refine r_iast (w := [(h0, eO 9 [.ref k0, .ref k1, .ref k2, .ref k3, .int 0, .ref k5, .int 12, .int 0, .int 0, .int 0, .int 0, .int 0, .int 0, .int 0, .int 0, .int (-1), .int 0, .int 0, .int 0, .ref k19, .ref k20, .ref k21, .ref k22, .ref k23, .int 0, .ref k25, .ref k26, .ref k27, .int 0, .int 0, .ref k30, .ref k31, .int 0, .ref k33, .int 0, .int 0, .ref k36, .ref k37, .ref k38, .ref k39]), (k5, eI (ty 0) 900 (upd tg_23 12 (((x4).toUInt32 >>> ((24 : Int32).toUInt32 &&& Int32.toUInt32 31)).toInt32 &&& 255)))]) C hP hD hS 1 rfl 12 rfl (by decide) (by decide) rfl d_X9_feed_103 (fun H locs hP hD hS => ?_)
  refine lv_aload_n hx hb d_X9_feed_104 rfl (lv_at hl 2 rfl) ?_
  refine lv_dup hx hb d_X9_feed_105 rfl ?_
  refine r_get (v := .int 12) C hP 0 rfl rfl lay_X9 6 (by decide) k_1551 rfl d_X9_feed_106 ?_
  refine lv_iconst (v := 1) hx hb d_X9_feed_109 (by decide) ?_
  refine r_iadd (z := 13) C d_X9_feed_110 (by decide) ?_
  refine r_put (w := [(h0, eO 9 [.ref k0, .ref k1, .ref k2, .ref k3, .int 0, .ref k5, .int 13, .int 0, .int 0, .int 0, .int 0, .int 0, .int 0, .int 0, .int 0, .int (-1), .int 0, .int 0, .int 0, .ref k19, .ref k20, .ref k21, .ref k22, .ref k23, .int 0, .ref k25, .ref k26, .ref k27, .int 0, .int 0, .ref k30, .ref k31, .int 0, .ref k33, .int 0, .int 0, .ref k36, .ref k37, .ref k38, .ref k39]), (k5, eI (ty 0) 900 (upd tg_23 12 (((x4).toUInt32 >>> ((24 : Int32).toUInt32 &&& Int32.toUInt32 31)).toInt32 &&& 255)))]) C hP hD hS 0 rfl rfl lay_X9 tok_X9 nmo_X9 6 (by decide) k_1551 rfl rfl rfl (nle rfl) rfl d_X9_feed_111 (fun H locs hP hD hS => ?_)
  refine lv_iinc (v := 13) (lv' := [(6, .int 13), (7, .int x4), (0, .ref h0), (1, .int x1), (2, .int x2), (3, .int x3), (4, .int x4), (5, .int x5)]) (k := 1) hx hb d_X9_feed_114 hl rfl (by decide) (by decide) rfl (fun ls hl => ?_)
  refine lv_goto (tgt := 23) hx hb d_X9_feed_117 (by decide) ?_
  obtain ⟨tg_25, htg_26⟩ : ∃ g9 : Nat → Int32, (upd tg_23 12 (((x4).toUInt32 >>> ((24 : Int32).toUInt32 &&& Int32.toUInt32 31)).toInt32 &&& 255)) = g9 := ⟨_, rfl⟩
  rw [htg_26] at hP hD
  refine lv_iload hx hb d_X9_feed_23 (lv_at hl 0 rfl) ?_
  refine lv_bipush (v := 20) hx hb d_X9_feed_25 (by decide) ?_
  refine b_icmp_geF C 120 d_X9_feed_27 (by decide) (by decide) ?_
  refine lv_iload hx hb d_X9_feed_30 (lv_at hl 0 rfl) ?_
  refine lv_iconst (v := 4) hx hb d_X9_feed_32 (by decide) ?_
  refine b_icmp_geT C 40 d_X9_feed_33 (by decide) (by decide) ?_
  refine lv_iload hx hb d_X9_feed_40 (lv_at hl 0 rfl) ?_
  refine lv_bipush (v := 8) hx hb d_X9_feed_42 (by decide) ?_
  refine b_icmp_geT C 51 d_X9_feed_44 (by decide) (by decide) ?_
  refine lv_iload hx hb d_X9_feed_51 (lv_at hl 0 rfl) ?_
  refine lv_bipush (v := 12) hx hb d_X9_feed_53 (by decide) ?_
  refine b_icmp_geT C 62 d_X9_feed_55 (by decide) (by decide) ?_
  refine lv_iload hx hb d_X9_feed_62 (lv_at hl 0 rfl) ?_
  refine lv_bipush (v := 16) hx hb d_X9_feed_64 (by decide) ?_
  refine b_icmp_geF C 74 d_X9_feed_66 (by decide) (by decide) ?_
  refine lv_iload hx hb d_X9_feed_69 (lv_at hl 6 rfl) ?_
  refine lv_goto (tgt := 76) hx hb d_X9_feed_71 (by decide) ?_
  refine lv_istore (lv' := [(7, .int x4), (6, .int 13), (0, .ref h0), (1, .int x1), (2, .int x2), (3, .int x3), (4, .int x4), (5, .int x5)]) hx hb d_X9_feed_76 hl (by decide) rfl (fun ls hl => ?_)
  refine lv_aload_n hx hb d_X9_feed_78 rfl (lv_at hl 2 rfl) ?_
  refine r_get (v := .ref k5) C hP 0 rfl rfl lay_X9 5 (by decide) k_1550 rfl d_X9_feed_79 ?_
  refine lv_aload_n hx hb d_X9_feed_82 rfl (lv_at hl 2 rfl) ?_
  refine r_get (v := .int 13) C hP 0 rfl rfl lay_X9 6 (by decide) k_1551 rfl d_X9_feed_83 ?_
  refine lv_iload hx hb d_X9_feed_86 (lv_at hl 0 rfl) ?_
  refine lv_bipush (v := 24) hx hb d_X9_feed_88 (by decide) ?_
  refine lv_bipush (v := 8) hx hb d_X9_feed_90 (by decide) ?_
  refine lv_iload hx hb d_X9_feed_92 (lv_at hl 1 rfl) ?_
  refine lv_iconst (v := 3) hx hb d_X9_feed_94 (by decide) ?_
  refine r_iand (z := 1) C d_X9_feed_95 (by decide) ?_
  refine r_imul (z := 8) C d_X9_feed_96 (by decide) ?_
  refine r_isub (z := 16) C d_X9_feed_97 (by decide) ?_
  refine lv_iushr (v := ((x4).toUInt32 >>> ((16 : Int32).toUInt32 &&& Int32.toUInt32 31)).toInt32) hx hb d_X9_feed_98 rfl ?_
  refine lv_sipush (v := 255) hx hb d_X9_feed_99 (by decide) ?_
  refine r_iand (z := (((x4).toUInt32 >>> ((16 : Int32).toUInt32 &&& Int32.toUInt32 31)).toInt32 &&& 255)) C d_X9_feed_102 rfl ?_
  refine r_iast (w := [(h0, eO 9 [.ref k0, .ref k1, .ref k2, .ref k3, .int 0, .ref k5, .int 13, .int 0, .int 0, .int 0, .int 0, .int 0, .int 0, .int 0, .int 0, .int (-1), .int 0, .int 0, .int 0, .ref k19, .ref k20, .ref k21, .ref k22, .ref k23, .int 0, .ref k25, .ref k26, .ref k27, .int 0, .int 0, .ref k30, .ref k31, .int 0, .ref k33, .int 0, .int 0, .ref k36, .ref k37, .ref k38, .ref k39]), (k5, eI (ty 0) 900 (upd tg_25 13 (((x4).toUInt32 >>> ((16 : Int32).toUInt32 &&& Int32.toUInt32 31)).toInt32 &&& 255)))]) C hP hD hS 1 rfl 13 rfl (by decide) (by decide) rfl d_X9_feed_103 (fun H locs hP hD hS => ?_)
  refine lv_aload_n hx hb d_X9_feed_104 rfl (lv_at hl 2 rfl) ?_
  refine lv_dup hx hb d_X9_feed_105 rfl ?_
  refine r_get (v := .int 13) C hP 0 rfl rfl lay_X9 6 (by decide) k_1551 rfl d_X9_feed_106 ?_
  refine lv_iconst (v := 1) hx hb d_X9_feed_109 (by decide) ?_
  refine r_iadd (z := 14) C d_X9_feed_110 (by decide) ?_
  refine r_put (w := [(h0, eO 9 [.ref k0, .ref k1, .ref k2, .ref k3, .int 0, .ref k5, .int 14, .int 0, .int 0, .int 0, .int 0, .int 0, .int 0, .int 0, .int 0, .int (-1), .int 0, .int 0, .int 0, .ref k19, .ref k20, .ref k21, .ref k22, .ref k23, .int 0, .ref k25, .ref k26, .ref k27, .int 0, .int 0, .ref k30, .ref k31, .int 0, .ref k33, .int 0, .int 0, .ref k36, .ref k37, .ref k38, .ref k39]), (k5, eI (ty 0) 900 (upd tg_25 13 (((x4).toUInt32 >>> ((16 : Int32).toUInt32 &&& Int32.toUInt32 31)).toInt32 &&& 255)))]) C hP hD hS 0 rfl rfl lay_X9 tok_X9 nmo_X9 6 (by decide) k_1551 rfl rfl rfl (nle rfl) rfl d_X9_feed_111 (fun H locs hP hD hS => ?_)
  refine lv_iinc (v := 14) (lv' := [(6, .int 14), (7, .int x4), (0, .ref h0), (1, .int x1), (2, .int x2), (3, .int x3), (4, .int x4), (5, .int x5)]) (k := 1) hx hb d_X9_feed_114 hl rfl (by decide) (by decide) rfl (fun ls hl => ?_)
  refine lv_goto (tgt := 23) hx hb d_X9_feed_117 (by decide) ?_
  obtain ⟨tg_27, htg_28⟩ : ∃ g9 : Nat → Int32, (upd tg_25 13 (((x4).toUInt32 >>> ((16 : Int32).toUInt32 &&& Int32.toUInt32 31)).toInt32 &&& 255)) = g9 := ⟨_, rfl⟩
  rw [htg_28] at hP hD
  refine lv_iload hx hb d_X9_feed_23 (lv_at hl 0 rfl) ?_
  refine lv_bipush (v := 20) hx hb d_X9_feed_25 (by decide) ?_
  refine b_icmp_geF C 120 d_X9_feed_27 (by decide) (by decide) ?_
  refine lv_iload hx hb d_X9_feed_30 (lv_at hl 0 rfl) ?_
  refine lv_iconst (v := 4) hx hb d_X9_feed_32 (by decide) ?_
  refine b_icmp_geT C 40 d_X9_feed_33 (by decide) (by decide) ?_
  refine lv_iload hx hb d_X9_feed_40 (lv_at hl 0 rfl) ?_
  refine lv_bipush (v := 8) hx hb d_X9_feed_42 (by decide) ?_
  refine b_icmp_geT C 51 d_X9_feed_44 (by decide) (by decide) ?_
  refine lv_iload hx hb d_X9_feed_51 (lv_at hl 0 rfl) ?_
  refine lv_bipush (v := 12) hx hb d_X9_feed_53 (by decide) ?_
  refine b_icmp_geT C 62 d_X9_feed_55 (by decide) (by decide) ?_
  refine lv_iload hx hb d_X9_feed_62 (lv_at hl 0 rfl) ?_
  refine lv_bipush (v := 16) hx hb d_X9_feed_64 (by decide) ?_
  refine b_icmp_geF C 74 d_X9_feed_66 (by decide) (by decide) ?_
  refine lv_iload hx hb d_X9_feed_69 (lv_at hl 6 rfl) ?_
  refine lv_goto (tgt := 76) hx hb d_X9_feed_71 (by decide) ?_
  refine lv_istore (lv' := [(7, .int x4), (6, .int 14), (0, .ref h0), (1, .int x1), (2, .int x2), (3, .int x3), (4, .int x4), (5, .int x5)]) hx hb d_X9_feed_76 hl (by decide) rfl (fun ls hl => ?_)
  refine lv_aload_n hx hb d_X9_feed_78 rfl (lv_at hl 2 rfl) ?_
  refine r_get (v := .ref k5) C hP 0 rfl rfl lay_X9 5 (by decide) k_1550 rfl d_X9_feed_79 ?_
  refine lv_aload_n hx hb d_X9_feed_82 rfl (lv_at hl 2 rfl) ?_
  refine r_get (v := .int 14) C hP 0 rfl rfl lay_X9 6 (by decide) k_1551 rfl d_X9_feed_83 ?_
  refine lv_iload hx hb d_X9_feed_86 (lv_at hl 0 rfl) ?_
  refine lv_bipush (v := 24) hx hb d_X9_feed_88 (by decide) ?_
  refine lv_bipush (v := 8) hx hb d_X9_feed_90 (by decide) ?_
  refine lv_iload hx hb d_X9_feed_92 (lv_at hl 1 rfl) ?_
  refine lv_iconst (v := 3) hx hb d_X9_feed_94 (by decide) ?_
  refine r_iand (z := 2) C d_X9_feed_95 (by decide) ?_
  refine r_imul (z := 16) C d_X9_feed_96 (by decide) ?_
  refine r_isub (z := 8) C d_X9_feed_97 (by decide) ?_
  refine lv_iushr (v := ((x4).toUInt32 >>> ((8 : Int32).toUInt32 &&& Int32.toUInt32 31)).toInt32) hx hb d_X9_feed_98 rfl ?_
  refine lv_sipush (v := 255) hx hb d_X9_feed_99 (by decide) ?_
  refine r_iand (z := (((x4).toUInt32 >>> ((8 : Int32).toUInt32 &&& Int32.toUInt32 31)).toInt32 &&& 255)) C d_X9_feed_102 rfl ?_
  refine r_iast (w := [(h0, eO 9 [.ref k0, .ref k1, .ref k2, .ref k3, .int 0, .ref k5, .int 14, .int 0, .int 0, .int 0, .int 0, .int 0, .int 0, .int 0, .int 0, .int (-1), .int 0, .int 0, .int 0, .ref k19, .ref k20, .ref k21, .ref k22, .ref k23, .int 0, .ref k25, .ref k26, .ref k27, .int 0, .int 0, .ref k30, .ref k31, .int 0, .ref k33, .int 0, .int 0, .ref k36, .ref k37, .ref k38, .ref k39]), (k5, eI (ty 0) 900 (upd tg_27 14 (((x4).toUInt32 >>> ((8 : Int32).toUInt32 &&& Int32.toUInt32 31)).toInt32 &&& 255)))]) C hP hD hS 1 rfl 14 rfl (by decide) (by decide) rfl d_X9_feed_103 (fun H locs hP hD hS => ?_)
  refine lv_aload_n hx hb d_X9_feed_104 rfl (lv_at hl 2 rfl) ?_
  refine lv_dup hx hb d_X9_feed_105 rfl ?_
  refine r_get (v := .int 14) C hP 0 rfl rfl lay_X9 6 (by decide) k_1551 rfl d_X9_feed_106 ?_
  refine lv_iconst (v := 1) hx hb d_X9_feed_109 (by decide) ?_
  refine r_iadd (z := 15) C d_X9_feed_110 (by decide) ?_
  refine r_put (w := [(h0, eO 9 [.ref k0, .ref k1, .ref k2, .ref k3, .int 0, .ref k5, .int 15, .int 0, .int 0, .int 0, .int 0, .int 0, .int 0, .int 0, .int 0, .int (-1), .int 0, .int 0, .int 0, .ref k19, .ref k20, .ref k21, .ref k22, .ref k23, .int 0, .ref k25, .ref k26, .ref k27, .int 0, .int 0, .ref k30, .ref k31, .int 0, .ref k33, .int 0, .int 0, .ref k36, .ref k37, .ref k38, .ref k39]), (k5, eI (ty 0) 900 (upd tg_27 14 (((x4).toUInt32 >>> ((8 : Int32).toUInt32 &&& Int32.toUInt32 31)).toInt32 &&& 255)))]) C hP hD hS 0 rfl rfl lay_X9 tok_X9 nmo_X9 6 (by decide) k_1551 rfl rfl rfl (nle rfl) rfl d_X9_feed_111 (fun H locs hP hD hS => ?_)
  refine lv_iinc (v := 15) (lv' := [(6, .int 15), (7, .int x4), (0, .ref h0), (1, .int x1), (2, .int x2), (3, .int x3), (4, .int x4), (5, .int x5)]) (k := 1) hx hb d_X9_feed_114 hl rfl (by decide) (by decide) rfl (fun ls hl => ?_)
  refine lv_goto (tgt := 23) hx hb d_X9_feed_117 (by decide) ?_
  obtain ⟨tg_29, htg_30⟩ : ∃ g9 : Nat → Int32, (upd tg_27 14 (((x4).toUInt32 >>> ((8 : Int32).toUInt32 &&& Int32.toUInt32 31)).toInt32 &&& 255)) = g9 := ⟨_, rfl⟩
  rw [htg_30] at hP hD
  refine lv_iload hx hb d_X9_feed_23 (lv_at hl 0 rfl) ?_
  refine lv_bipush (v := 20) hx hb d_X9_feed_25 (by decide) ?_
  refine b_icmp_geF C 120 d_X9_feed_27 (by decide) (by decide) ?_
  refine lv_iload hx hb d_X9_feed_30 (lv_at hl 0 rfl) ?_
  refine lv_iconst (v := 4) hx hb d_X9_feed_32 (by decide) ?_
  refine b_icmp_geT C 40 d_X9_feed_33 (by decide) (by decide) ?_
  refine lv_iload hx hb d_X9_feed_40 (lv_at hl 0 rfl) ?_
  refine lv_bipush (v := 8) hx hb d_X9_feed_42 (by decide) ?_
  refine b_icmp_geT C 51 d_X9_feed_44 (by decide) (by decide) ?_
  refine lv_iload hx hb d_X9_feed_51 (lv_at hl 0 rfl) ?_
  refine lv_bipush (v := 12) hx hb d_X9_feed_53 (by decide) ?_
  refine b_icmp_geT C 62 d_X9_feed_55 (by decide) (by decide) ?_
  refine lv_iload hx hb d_X9_feed_62 (lv_at hl 0 rfl) ?_
  refine lv_bipush (v := 16) hx hb d_X9_feed_64 (by decide) ?_
  refine b_icmp_geF C 74 d_X9_feed_66 (by decide) (by decide) ?_
  refine lv_iload hx hb d_X9_feed_69 (lv_at hl 6 rfl) ?_
  refine lv_goto (tgt := 76) hx hb d_X9_feed_71 (by decide) ?_
  refine lv_istore (lv' := [(7, .int x4), (6, .int 15), (0, .ref h0), (1, .int x1), (2, .int x2), (3, .int x3), (4, .int x4), (5, .int x5)]) hx hb d_X9_feed_76 hl (by decide) rfl (fun ls hl => ?_)
  refine lv_aload_n hx hb d_X9_feed_78 rfl (lv_at hl 2 rfl) ?_
  refine r_get (v := .ref k5) C hP 0 rfl rfl lay_X9 5 (by decide) k_1550 rfl d_X9_feed_79 ?_
  refine lv_aload_n hx hb d_X9_feed_82 rfl (lv_at hl 2 rfl) ?_
  refine r_get (v := .int 15) C hP 0 rfl rfl lay_X9 6 (by decide) k_1551 rfl d_X9_feed_83 ?_
  refine lv_iload hx hb d_X9_feed_86 (lv_at hl 0 rfl) ?_
  refine lv_bipush (v := 24) hx hb d_X9_feed_88 (by decide) ?_
  refine lv_bipush (v := 8) hx hb d_X9_feed_90 (by decide) ?_
  refine lv_iload hx hb d_X9_feed_92 (lv_at hl 1 rfl) ?_
  refine lv_iconst (v := 3) hx hb d_X9_feed_94 (by decide) ?_
  refine r_iand (z := 3) C d_X9_feed_95 (by decide) ?_
  refine r_imul (z := 24) C d_X9_feed_96 (by decide) ?_
  refine r_isub (z := 0) C d_X9_feed_97 (by decide) ?_
  refine lv_iushr (v := ((x4).toUInt32 >>> ((0 : Int32).toUInt32 &&& Int32.toUInt32 31)).toInt32) hx hb d_X9_feed_98 rfl ?_
  refine lv_sipush (v := 255) hx hb d_X9_feed_99 (by decide) ?_
  refine r_iand (z := (((x4).toUInt32 >>> ((0 : Int32).toUInt32 &&& Int32.toUInt32 31)).toInt32 &&& 255)) C d_X9_feed_102 rfl ?_
  refine r_iast (w := [(h0, eO 9 [.ref k0, .ref k1, .ref k2, .ref k3, .int 0, .ref k5, .int 15, .int 0, .int 0, .int 0, .int 0, .int 0, .int 0, .int 0, .int 0, .int (-1), .int 0, .int 0, .int 0, .ref k19, .ref k20, .ref k21, .ref k22, .ref k23, .int 0, .ref k25, .ref k26, .ref k27, .int 0, .int 0, .ref k30, .ref k31, .int 0, .ref k33, .int 0, .int 0, .ref k36, .ref k37, .ref k38, .ref k39]), (k5, eI (ty 0) 900 (upd tg_29 15 (((x4).toUInt32 >>> ((0 : Int32).toUInt32 &&& Int32.toUInt32 31)).toInt32 &&& 255)))]) C hP hD hS 1 rfl 15 rfl (by decide) (by decide) rfl d_X9_feed_103 (fun H locs hP hD hS => ?_)
  refine lv_aload_n hx hb d_X9_feed_104 rfl (lv_at hl 2 rfl) ?_
  refine lv_dup hx hb d_X9_feed_105 rfl ?_
  refine r_get (v := .int 15) C hP 0 rfl rfl lay_X9 6 (by decide) k_1551 rfl d_X9_feed_106 ?_
  refine lv_iconst (v := 1) hx hb d_X9_feed_109 (by decide) ?_
  refine r_iadd (z := 16) C d_X9_feed_110 (by decide) ?_
  refine r_put (w := [(h0, eO 9 [.ref k0, .ref k1, .ref k2, .ref k3, .int 0, .ref k5, .int 16, .int 0, .int 0, .int 0, .int 0, .int 0, .int 0, .int 0, .int 0, .int (-1), .int 0, .int 0, .int 0, .ref k19, .ref k20, .ref k21, .ref k22, .ref k23, .int 0, .ref k25, .ref k26, .ref k27, .int 0, .int 0, .ref k30, .ref k31, .int 0, .ref k33, .int 0, .int 0, .ref k36, .ref k37, .ref k38, .ref k39]), (k5, eI (ty 0) 900 (upd tg_29 15 (((x4).toUInt32 >>> ((0 : Int32).toUInt32 &&& Int32.toUInt32 31)).toInt32 &&& 255)))]) C hP hD hS 0 rfl rfl lay_X9 tok_X9 nmo_X9 6 (by decide) k_1551 rfl rfl rfl (nle rfl) rfl d_X9_feed_111 (fun H locs hP hD hS => ?_)
  refine lv_iinc (v := 16) (lv' := [(6, .int 16), (7, .int x4), (0, .ref h0), (1, .int x1), (2, .int x2), (3, .int x3), (4, .int x4), (5, .int x5)]) (k := 1) hx hb d_X9_feed_114 hl rfl (by decide) (by decide) rfl (fun ls hl => ?_)
  refine lv_goto (tgt := 23) hx hb d_X9_feed_117 (by decide) ?_
  obtain ⟨tg_31, htg_32⟩ : ∃ g9 : Nat → Int32, (upd tg_29 15 (((x4).toUInt32 >>> ((0 : Int32).toUInt32 &&& Int32.toUInt32 31)).toInt32 &&& 255)) = g9 := ⟨_, rfl⟩
  rw [htg_32] at hP hD
  refine lv_iload hx hb d_X9_feed_23 (lv_at hl 0 rfl) ?_
  refine lv_bipush (v := 20) hx hb d_X9_feed_25 (by decide) ?_
  refine b_icmp_geF C 120 d_X9_feed_27 (by decide) (by decide) ?_
  refine lv_iload hx hb d_X9_feed_30 (lv_at hl 0 rfl) ?_
  refine lv_iconst (v := 4) hx hb d_X9_feed_32 (by decide) ?_
  refine b_icmp_geT C 40 d_X9_feed_33 (by decide) (by decide) ?_
  refine lv_iload hx hb d_X9_feed_40 (lv_at hl 0 rfl) ?_
  refine lv_bipush (v := 8) hx hb d_X9_feed_42 (by decide) ?_
  refine b_icmp_geT C 51 d_X9_feed_44 (by decide) (by decide) ?_
  refine lv_iload hx hb d_X9_feed_51 (lv_at hl 0 rfl) ?_
  refine lv_bipush (v := 12) hx hb d_X9_feed_53 (by decide) ?_
  refine b_icmp_geT C 62 d_X9_feed_55 (by decide) (by decide) ?_
  refine lv_iload hx hb d_X9_feed_62 (lv_at hl 0 rfl) ?_
  refine lv_bipush (v := 16) hx hb d_X9_feed_64 (by decide) ?_
  refine b_icmp_geT C 74 d_X9_feed_66 (by decide) (by decide) ?_
  refine lv_iload hx hb d_X9_feed_74 (lv_at hl 7 rfl) ?_
  refine lv_istore (lv' := [(7, .int x5), (6, .int 16), (0, .ref h0), (1, .int x1), (2, .int x2), (3, .int x3), (4, .int x4), (5, .int x5)]) hx hb d_X9_feed_76 hl (by decide) rfl (fun ls hl => ?_)
  refine lv_aload_n hx hb d_X9_feed_78 rfl (lv_at hl 2 rfl) ?_
  refine r_get (v := .ref k5) C hP 0 rfl rfl lay_X9 5 (by decide) k_1550 rfl d_X9_feed_79 ?_
  refine lv_aload_n hx hb d_X9_feed_82 rfl (lv_at hl 2 rfl) ?_
  refine r_get (v := .int 16) C hP 0 rfl rfl lay_X9 6 (by decide) k_1551 rfl d_X9_feed_83 ?_
  refine lv_iload hx hb d_X9_feed_86 (lv_at hl 0 rfl) ?_
  refine lv_bipush (v := 24) hx hb d_X9_feed_88 (by decide) ?_
  refine lv_bipush (v := 8) hx hb d_X9_feed_90 (by decide) ?_
  refine lv_iload hx hb d_X9_feed_92 (lv_at hl 1 rfl) ?_
  refine lv_iconst (v := 3) hx hb d_X9_feed_94 (by decide) ?_
  refine r_iand (z := 0) C d_X9_feed_95 (by decide) ?_
  refine r_imul (z := 0) C d_X9_feed_96 (by decide) ?_
  refine r_isub (z := 24) C d_X9_feed_97 (by decide) ?_
  refine lv_iushr (v := ((x5).toUInt32 >>> ((24 : Int32).toUInt32 &&& Int32.toUInt32 31)).toInt32) hx hb d_X9_feed_98 rfl ?_
  refine lv_sipush (v := 255) hx hb d_X9_feed_99 (by decide) ?_
  refine r_iand (z := (((x5).toUInt32 >>> ((24 : Int32).toUInt32 &&& Int32.toUInt32 31)).toInt32 &&& 255)) C d_X9_feed_102 rfl ?_
  refine r_iast (w := [(h0, eO 9 [.ref k0, .ref k1, .ref k2, .ref k3, .int 0, .ref k5, .int 16, .int 0, .int 0, .int 0, .int 0, .int 0, .int 0, .int 0, .int 0, .int (-1), .int 0, .int 0, .int 0, .ref k19, .ref k20, .ref k21, .ref k22, .ref k23, .int 0, .ref k25, .ref k26, .ref k27, .int 0, .int 0, .ref k30, .ref k31, .int 0, .ref k33, .int 0, .int 0, .ref k36, .ref k37, .ref k38, .ref k39]), (k5, eI (ty 0) 900 (upd tg_31 16 (((x5).toUInt32 >>> ((24 : Int32).toUInt32 &&& Int32.toUInt32 31)).toInt32 &&& 255)))]) C hP hD hS 1 rfl 16 rfl (by decide) (by decide) rfl d_X9_feed_103 (fun H locs hP hD hS => ?_)
  refine lv_aload_n hx hb d_X9_feed_104 rfl (lv_at hl 2 rfl) ?_
  refine lv_dup hx hb d_X9_feed_105 rfl ?_
  refine r_get (v := .int 16) C hP 0 rfl rfl lay_X9 6 (by decide) k_1551 rfl d_X9_feed_106 ?_
  refine lv_iconst (v := 1) hx hb d_X9_feed_109 (by decide) ?_
  refine r_iadd (z := 17) C d_X9_feed_110 (by decide) ?_
  refine r_put (w := [(h0, eO 9 [.ref k0, .ref k1, .ref k2, .ref k3, .int 0, .ref k5, .int 17, .int 0, .int 0, .int 0, .int 0, .int 0, .int 0, .int 0, .int 0, .int (-1), .int 0, .int 0, .int 0, .ref k19, .ref k20, .ref k21, .ref k22, .ref k23, .int 0, .ref k25, .ref k26, .ref k27, .int 0, .int 0, .ref k30, .ref k31, .int 0, .ref k33, .int 0, .int 0, .ref k36, .ref k37, .ref k38, .ref k39]), (k5, eI (ty 0) 900 (upd tg_31 16 (((x5).toUInt32 >>> ((24 : Int32).toUInt32 &&& Int32.toUInt32 31)).toInt32 &&& 255)))]) C hP hD hS 0 rfl rfl lay_X9 tok_X9 nmo_X9 6 (by decide) k_1551 rfl rfl rfl (nle rfl) rfl d_X9_feed_111 (fun H locs hP hD hS => ?_)
  refine lv_iinc (v := 17) (lv' := [(6, .int 17), (7, .int x5), (0, .ref h0), (1, .int x1), (2, .int x2), (3, .int x3), (4, .int x4), (5, .int x5)]) (k := 1) hx hb d_X9_feed_114 hl rfl (by decide) (by decide) rfl (fun ls hl => ?_)
  refine lv_goto (tgt := 23) hx hb d_X9_feed_117 (by decide) ?_
  obtain ⟨tg_33, htg_34⟩ : ∃ g9 : Nat → Int32, (upd tg_31 16 (((x5).toUInt32 >>> ((24 : Int32).toUInt32 &&& Int32.toUInt32 31)).toInt32 &&& 255)) = g9 := ⟨_, rfl⟩
  rw [htg_34] at hP hD
  refine lv_iload hx hb d_X9_feed_23 (lv_at hl 0 rfl) ?_
  refine lv_bipush (v := 20) hx hb d_X9_feed_25 (by decide) ?_
  refine b_icmp_geF C 120 d_X9_feed_27 (by decide) (by decide) ?_
  refine lv_iload hx hb d_X9_feed_30 (lv_at hl 0 rfl) ?_
  refine lv_iconst (v := 4) hx hb d_X9_feed_32 (by decide) ?_
  refine b_icmp_geT C 40 d_X9_feed_33 (by decide) (by decide) ?_
  refine lv_iload hx hb d_X9_feed_40 (lv_at hl 0 rfl) ?_
  refine lv_bipush (v := 8) hx hb d_X9_feed_42 (by decide) ?_
  refine b_icmp_geT C 51 d_X9_feed_44 (by decide) (by decide) ?_
  refine lv_iload hx hb d_X9_feed_51 (lv_at hl 0 rfl) ?_
  refine lv_bipush (v := 12) hx hb d_X9_feed_53 (by decide) ?_
  refine b_icmp_geT C 62 d_X9_feed_55 (by decide) (by decide) ?_
  refine lv_iload hx hb d_X9_feed_62 (lv_at hl 0 rfl) ?_
  refine lv_bipush (v := 16) hx hb d_X9_feed_64 (by decide) ?_
  refine b_icmp_geT C 74 d_X9_feed_66 (by decide) (by decide) ?_
  refine lv_iload hx hb d_X9_feed_74 (lv_at hl 7 rfl) ?_
  refine lv_istore (lv' := [(7, .int x5), (6, .int 17), (0, .ref h0), (1, .int x1), (2, .int x2), (3, .int x3), (4, .int x4), (5, .int x5)]) hx hb d_X9_feed_76 hl (by decide) rfl (fun ls hl => ?_)
  refine lv_aload_n hx hb d_X9_feed_78 rfl (lv_at hl 2 rfl) ?_
  refine r_get (v := .ref k5) C hP 0 rfl rfl lay_X9 5 (by decide) k_1550 rfl d_X9_feed_79 ?_
  refine lv_aload_n hx hb d_X9_feed_82 rfl (lv_at hl 2 rfl) ?_
  refine r_get (v := .int 17) C hP 0 rfl rfl lay_X9 6 (by decide) k_1551 rfl d_X9_feed_83 ?_
  refine lv_iload hx hb d_X9_feed_86 (lv_at hl 0 rfl) ?_
  refine lv_bipush (v := 24) hx hb d_X9_feed_88 (by decide) ?_
  refine lv_bipush (v := 8) hx hb d_X9_feed_90 (by decide) ?_
  refine lv_iload hx hb d_X9_feed_92 (lv_at hl 1 rfl) ?_
  refine lv_iconst (v := 3) hx hb d_X9_feed_94 (by decide) ?_
  refine r_iand (z := 1) C d_X9_feed_95 (by decide) ?_
  refine r_imul (z := 8) C d_X9_feed_96 (by decide) ?_
  refine r_isub (z := 16) C d_X9_feed_97 (by decide) ?_
  refine lv_iushr (v := ((x5).toUInt32 >>> ((16 : Int32).toUInt32 &&& Int32.toUInt32 31)).toInt32) hx hb d_X9_feed_98 rfl ?_
  refine lv_sipush (v := 255) hx hb d_X9_feed_99 (by decide) ?_
  refine r_iand (z := (((x5).toUInt32 >>> ((16 : Int32).toUInt32 &&& Int32.toUInt32 31)).toInt32 &&& 255)) C d_X9_feed_102 rfl ?_
  refine r_iast (w := [(h0, eO 9 [.ref k0, .ref k1, .ref k2, .ref k3, .int 0, .ref k5, .int 17, .int 0, .int 0, .int 0, .int 0, .int 0, .int 0, .int 0, .int 0, .int (-1), .int 0, .int 0, .int 0, .ref k19, .ref k20, .ref k21, .ref k22, .ref k23, .int 0, .ref k25, .ref k26, .ref k27, .int 0, .int 0, .ref k30, .ref k31, .int 0, .ref k33, .int 0, .int 0, .ref k36, .ref k37, .ref k38, .ref k39]), (k5, eI (ty 0) 900 (upd tg_33 17 (((x5).toUInt32 >>> ((16 : Int32).toUInt32 &&& Int32.toUInt32 31)).toInt32 &&& 255)))]) C hP hD hS 1 rfl 17 rfl (by decide) (by decide) rfl d_X9_feed_103 (fun H locs hP hD hS => ?_)
  refine lv_aload_n hx hb d_X9_feed_104 rfl (lv_at hl 2 rfl) ?_
  refine lv_dup hx hb d_X9_feed_105 rfl ?_
  refine r_get (v := .int 17) C hP 0 rfl rfl lay_X9 6 (by decide) k_1551 rfl d_X9_feed_106 ?_
  refine lv_iconst (v := 1) hx hb d_X9_feed_109 (by decide) ?_
  refine r_iadd (z := 18) C d_X9_feed_110 (by decide) ?_
  refine r_put (w := [(h0, eO 9 [.ref k0, .ref k1, .ref k2, .ref k3, .int 0, .ref k5, .int 18, .int 0, .int 0, .int 0, .int 0, .int 0, .int 0, .int 0, .int 0, .int (-1), .int 0, .int 0, .int 0, .ref k19, .ref k20, .ref k21, .ref k22, .ref k23, .int 0, .ref k25, .ref k26, .ref k27, .int 0, .int 0, .ref k30, .ref k31, .int 0, .ref k33, .int 0, .int 0, .ref k36, .ref k37, .ref k38, .ref k39]), (k5, eI (ty 0) 900 (upd tg_33 17 (((x5).toUInt32 >>> ((16 : Int32).toUInt32 &&& Int32.toUInt32 31)).toInt32 &&& 255)))]) C hP hD hS 0 rfl rfl lay_X9 tok_X9 nmo_X9 6 (by decide) k_1551 rfl rfl rfl (nle rfl) rfl d_X9_feed_111 (fun H locs hP hD hS => ?_)
  refine lv_iinc (v := 18) (lv' := [(6, .int 18), (7, .int x5), (0, .ref h0), (1, .int x1), (2, .int x2), (3, .int x3), (4, .int x4), (5, .int x5)]) (k := 1) hx hb d_X9_feed_114 hl rfl (by decide) (by decide) rfl (fun ls hl => ?_)
  refine lv_goto (tgt := 23) hx hb d_X9_feed_117 (by decide) ?_
  obtain ⟨tg_35, htg_36⟩ : ∃ g9 : Nat → Int32, (upd tg_33 17 (((x5).toUInt32 >>> ((16 : Int32).toUInt32 &&& Int32.toUInt32 31)).toInt32 &&& 255)) = g9 := ⟨_, rfl⟩
  rw [htg_36] at hP hD
  refine lv_iload hx hb d_X9_feed_23 (lv_at hl 0 rfl) ?_
  refine lv_bipush (v := 20) hx hb d_X9_feed_25 (by decide) ?_
  refine b_icmp_geF C 120 d_X9_feed_27 (by decide) (by decide) ?_
  refine lv_iload hx hb d_X9_feed_30 (lv_at hl 0 rfl) ?_
  refine lv_iconst (v := 4) hx hb d_X9_feed_32 (by decide) ?_
  refine b_icmp_geT C 40 d_X9_feed_33 (by decide) (by decide) ?_
  refine lv_iload hx hb d_X9_feed_40 (lv_at hl 0 rfl) ?_
  refine lv_bipush (v := 8) hx hb d_X9_feed_42 (by decide) ?_
  refine b_icmp_geT C 51 d_X9_feed_44 (by decide) (by decide) ?_
  refine lv_iload hx hb d_X9_feed_51 (lv_at hl 0 rfl) ?_
  refine lv_bipush (v := 12) hx hb d_X9_feed_53 (by decide) ?_
  refine b_icmp_geT C 62 d_X9_feed_55 (by decide) (by decide) ?_
  refine lv_iload hx hb d_X9_feed_62 (lv_at hl 0 rfl) ?_
  refine lv_bipush (v := 16) hx hb d_X9_feed_64 (by decide) ?_
  refine b_icmp_geT C 74 d_X9_feed_66 (by decide) (by decide) ?_
  refine lv_iload hx hb d_X9_feed_74 (lv_at hl 7 rfl) ?_
  refine lv_istore (lv' := [(7, .int x5), (6, .int 18), (0, .ref h0), (1, .int x1), (2, .int x2), (3, .int x3), (4, .int x4), (5, .int x5)]) hx hb d_X9_feed_76 hl (by decide) rfl (fun ls hl => ?_)
  refine lv_aload_n hx hb d_X9_feed_78 rfl (lv_at hl 2 rfl) ?_
  refine r_get (v := .ref k5) C hP 0 rfl rfl lay_X9 5 (by decide) k_1550 rfl d_X9_feed_79 ?_
  refine lv_aload_n hx hb d_X9_feed_82 rfl (lv_at hl 2 rfl) ?_
  refine r_get (v := .int 18) C hP 0 rfl rfl lay_X9 6 (by decide) k_1551 rfl d_X9_feed_83 ?_
  refine lv_iload hx hb d_X9_feed_86 (lv_at hl 0 rfl) ?_
  refine lv_bipush (v := 24) hx hb d_X9_feed_88 (by decide) ?_
  refine lv_bipush (v := 8) hx hb d_X9_feed_90 (by decide) ?_
  refine lv_iload hx hb d_X9_feed_92 (lv_at hl 1 rfl) ?_
  refine lv_iconst (v := 3) hx hb d_X9_feed_94 (by decide) ?_
  refine r_iand (z := 2) C d_X9_feed_95 (by decide) ?_
  refine r_imul (z := 16) C d_X9_feed_96 (by decide) ?_
  refine r_isub (z := 8) C d_X9_feed_97 (by decide) ?_
  refine lv_iushr (v := ((x5).toUInt32 >>> ((8 : Int32).toUInt32 &&& Int32.toUInt32 31)).toInt32) hx hb d_X9_feed_98 rfl ?_
  refine lv_sipush (v := 255) hx hb d_X9_feed_99 (by decide) ?_
  refine r_iand (z := (((x5).toUInt32 >>> ((8 : Int32).toUInt32 &&& Int32.toUInt32 31)).toInt32 &&& 255)) C d_X9_feed_102 rfl ?_
  refine r_iast (w := [(h0, eO 9 [.ref k0, .ref k1, .ref k2, .ref k3, .int 0, .ref k5, .int 18, .int 0, .int 0, .int 0, .int 0, .int 0, .int 0, .int 0, .int 0, .int (-1), .int 0, .int 0, .int 0, .ref k19, .ref k20, .ref k21, .ref k22, .ref k23, .int 0, .ref k25, .ref k26, .ref k27, .int 0, .int 0, .ref k30, .ref k31, .int 0, .ref k33, .int 0, .int 0, .ref k36, .ref k37, .ref k38, .ref k39]), (k5, eI (ty 0) 900 (upd tg_35 18 (((x5).toUInt32 >>> ((8 : Int32).toUInt32 &&& Int32.toUInt32 31)).toInt32 &&& 255)))]) C hP hD hS 1 rfl 18 rfl (by decide) (by decide) rfl d_X9_feed_103 (fun H locs hP hD hS => ?_)
  refine lv_aload_n hx hb d_X9_feed_104 rfl (lv_at hl 2 rfl) ?_
  refine lv_dup hx hb d_X9_feed_105 rfl ?_
  refine r_get (v := .int 18) C hP 0 rfl rfl lay_X9 6 (by decide) k_1551 rfl d_X9_feed_106 ?_
  refine lv_iconst (v := 1) hx hb d_X9_feed_109 (by decide) ?_
  refine r_iadd (z := 19) C d_X9_feed_110 (by decide) ?_
  refine r_put (w := [(h0, eO 9 [.ref k0, .ref k1, .ref k2, .ref k3, .int 0, .ref k5, .int 19, .int 0, .int 0, .int 0, .int 0, .int 0, .int 0, .int 0, .int 0, .int (-1), .int 0, .int 0, .int 0, .ref k19, .ref k20, .ref k21, .ref k22, .ref k23, .int 0, .ref k25, .ref k26, .ref k27, .int 0, .int 0, .ref k30, .ref k31, .int 0, .ref k33, .int 0, .int 0, .ref k36, .ref k37, .ref k38, .ref k39]), (k5, eI (ty 0) 900 (upd tg_35 18 (((x5).toUInt32 >>> ((8 : Int32).toUInt32 &&& Int32.toUInt32 31)).toInt32 &&& 255)))]) C hP hD hS 0 rfl rfl lay_X9 tok_X9 nmo_X9 6 (by decide) k_1551 rfl rfl rfl (nle rfl) rfl d_X9_feed_111 (fun H locs hP hD hS => ?_)
  refine lv_iinc (v := 19) (lv' := [(6, .int 19), (7, .int x5), (0, .ref h0), (1, .int x1), (2, .int x2), (3, .int x3), (4, .int x4), (5, .int x5)]) (k := 1) hx hb d_X9_feed_114 hl rfl (by decide) (by decide) rfl (fun ls hl => ?_)
  refine lv_goto (tgt := 23) hx hb d_X9_feed_117 (by decide) ?_
  obtain ⟨tg_37, htg_38⟩ : ∃ g9 : Nat → Int32, (upd tg_35 18 (((x5).toUInt32 >>> ((8 : Int32).toUInt32 &&& Int32.toUInt32 31)).toInt32 &&& 255)) = g9 := ⟨_, rfl⟩
  rw [htg_38] at hP hD
  refine lv_iload hx hb d_X9_feed_23 (lv_at hl 0 rfl) ?_
  refine lv_bipush (v := 20) hx hb d_X9_feed_25 (by decide) ?_
  refine b_icmp_geF C 120 d_X9_feed_27 (by decide) (by decide) ?_
  refine lv_iload hx hb d_X9_feed_30 (lv_at hl 0 rfl) ?_
  refine lv_iconst (v := 4) hx hb d_X9_feed_32 (by decide) ?_
  refine b_icmp_geT C 40 d_X9_feed_33 (by decide) (by decide) ?_
  refine lv_iload hx hb d_X9_feed_40 (lv_at hl 0 rfl) ?_
  refine lv_bipush (v := 8) hx hb d_X9_feed_42 (by decide) ?_
  refine b_icmp_geT C 51 d_X9_feed_44 (by decide) (by decide) ?_
  refine lv_iload hx hb d_X9_feed_51 (lv_at hl 0 rfl) ?_
  refine lv_bipush (v := 12) hx hb d_X9_feed_53 (by decide) ?_
  refine b_icmp_geT C 62 d_X9_feed_55 (by decide) (by decide) ?_
  refine lv_iload hx hb d_X9_feed_62 (lv_at hl 0 rfl) ?_
  refine lv_bipush (v := 16) hx hb d_X9_feed_64 (by decide) ?_
  refine b_icmp_geT C 74 d_X9_feed_66 (by decide) (by decide) ?_
  refine lv_iload hx hb d_X9_feed_74 (lv_at hl 7 rfl) ?_
  refine lv_istore (lv' := [(7, .int x5), (6, .int 19), (0, .ref h0), (1, .int x1), (2, .int x2), (3, .int x3), (4, .int x4), (5, .int x5)]) hx hb d_X9_feed_76 hl (by decide) rfl (fun ls hl => ?_)
  refine lv_aload_n hx hb d_X9_feed_78 rfl (lv_at hl 2 rfl) ?_
  refine r_get (v := .ref k5) C hP 0 rfl rfl lay_X9 5 (by decide) k_1550 rfl d_X9_feed_79 ?_
  refine lv_aload_n hx hb d_X9_feed_82 rfl (lv_at hl 2 rfl) ?_
  refine r_get (v := .int 19) C hP 0 rfl rfl lay_X9 6 (by decide) k_1551 rfl d_X9_feed_83 ?_
  refine lv_iload hx hb d_X9_feed_86 (lv_at hl 0 rfl) ?_
  refine lv_bipush (v := 24) hx hb d_X9_feed_88 (by decide) ?_
  refine lv_bipush (v := 8) hx hb d_X9_feed_90 (by decide) ?_
  refine lv_iload hx hb d_X9_feed_92 (lv_at hl 1 rfl) ?_
  refine lv_iconst (v := 3) hx hb d_X9_feed_94 (by decide) ?_
  refine r_iand (z := 3) C d_X9_feed_95 (by decide) ?_
  refine r_imul (z := 24) C d_X9_feed_96 (by decide) ?_
  refine r_isub (z := 0) C d_X9_feed_97 (by decide) ?_
  refine lv_iushr (v := ((x5).toUInt32 >>> ((0 : Int32).toUInt32 &&& Int32.toUInt32 31)).toInt32) hx hb d_X9_feed_98 rfl ?_
  refine lv_sipush (v := 255) hx hb d_X9_feed_99 (by decide) ?_
  refine r_iand (z := (((x5).toUInt32 >>> ((0 : Int32).toUInt32 &&& Int32.toUInt32 31)).toInt32 &&& 255)) C d_X9_feed_102 rfl ?_
  refine r_iast (w := [(h0, eO 9 [.ref k0, .ref k1, .ref k2, .ref k3, .int 0, .ref k5, .int 19, .int 0, .int 0, .int 0, .int 0, .int 0, .int 0, .int 0, .int 0, .int (-1), .int 0, .int 0, .int 0, .ref k19, .ref k20, .ref k21, .ref k22, .ref k23, .int 0, .ref k25, .ref k26, .ref k27, .int 0, .int 0, .ref k30, .ref k31, .int 0, .ref k33, .int 0, .int 0, .ref k36, .ref k37, .ref k38, .ref k39]), (k5, eI (ty 0) 900 (upd tg_37 19 (((x5).toUInt32 >>> ((0 : Int32).toUInt32 &&& Int32.toUInt32 31)).toInt32 &&& 255)))]) C hP hD hS 1 rfl 19 rfl (by decide) (by decide) rfl d_X9_feed_103 (fun H locs hP hD hS => ?_)
  refine lv_aload_n hx hb d_X9_feed_104 rfl (lv_at hl 2 rfl) ?_
  refine lv_dup hx hb d_X9_feed_105 rfl ?_
  refine r_get (v := .int 19) C hP 0 rfl rfl lay_X9 6 (by decide) k_1551 rfl d_X9_feed_106 ?_
  refine lv_iconst (v := 1) hx hb d_X9_feed_109 (by decide) ?_
  refine r_iadd (z := 20) C d_X9_feed_110 (by decide) ?_
  refine r_put (w := [(h0, eO 9 [.ref k0, .ref k1, .ref k2, .ref k3, .int 0, .ref k5, .int 20, .int 0, .int 0, .int 0, .int 0, .int 0, .int 0, .int 0, .int 0, .int (-1), .int 0, .int 0, .int 0, .ref k19, .ref k20, .ref k21, .ref k22, .ref k23, .int 0, .ref k25, .ref k26, .ref k27, .int 0, .int 0, .ref k30, .ref k31, .int 0, .ref k33, .int 0, .int 0, .ref k36, .ref k37, .ref k38, .ref k39]), (k5, eI (ty 0) 900 (upd tg_37 19 (((x5).toUInt32 >>> ((0 : Int32).toUInt32 &&& Int32.toUInt32 31)).toInt32 &&& 255)))]) C hP hD hS 0 rfl rfl lay_X9 tok_X9 nmo_X9 6 (by decide) k_1551 rfl rfl rfl (nle rfl) rfl d_X9_feed_111 (fun H locs hP hD hS => ?_)
  refine lv_iinc (v := 20) (lv' := [(6, .int 20), (7, .int x5), (0, .ref h0), (1, .int x1), (2, .int x2), (3, .int x3), (4, .int x4), (5, .int x5)]) (k := 1) hx hb d_X9_feed_114 hl rfl (by decide) (by decide) rfl (fun ls hl => ?_)
  refine lv_goto (tgt := 23) hx hb d_X9_feed_117 (by decide) ?_
  obtain ⟨tg_39, htg_40⟩ : ∃ g9 : Nat → Int32, (upd tg_37 19 (((x5).toUInt32 >>> ((0 : Int32).toUInt32 &&& Int32.toUInt32 31)).toInt32 &&& 255)) = g9 := ⟨_, rfl⟩
  rw [htg_40] at hP hD
  refine lv_iload hx hb d_X9_feed_23 (lv_at hl 0 rfl) ?_
  refine lv_bipush (v := 20) hx hb d_X9_feed_25 (by decide) ?_
  refine b_icmp_geT C 120 d_X9_feed_27 (by decide) (by decide) ?_
  refine lv_aload_n hx hb d_X9_feed_120 rfl (lv_at hl 2 rfl) ?_
  refine r_get (v := .int 20) C hP 0 rfl rfl lay_X9 6 (by decide) k_1551 rfl d_X9_feed_121 ?_
  exact ret_I (w := []) C hP hD hS [] rfl rfl ⟨rfl, rfl⟩ (by decide) (by decide) d_X9_feed_124
set_option maxHeartbeats 4000000 in
set_option maxRecDepth 100000 in
theorem a_X9_readsOn_1 (l : Launch) (D : va_G) (ty : Nat → ClassId) (h0 : Nat) (k1 : Nat) (k5 : Nat) (k0 : Nat) (k2 : Nat) (k3 : Nat) (k19 : Nat) (k20 : Nat) (k21 : Nat) (k22 : Nat) (k23 : Nat) (k25 : Nat) (k26 : Nat) (k27 : Nat) (k30 : Nat) (k31 : Nat) (k33 : Nat) (k36 : Nat) (k37 : Nat) (k38 : Nat) (k39 : Nat) (tl_7 : Nat → Int32) : CC l D ty ⟨"PinchedBillModel", "readsOn", "()V"⟩ prog_11_method_12_code 2 none 0 0 0 0 [.ref h0] [(h0, eO 9 [.ref k0, .ref k1, .ref k2, .ref k3, .int 0, .ref k5, .int 0, .int 0, .int 0, .int 0, .int 0, .int 0, .int 0, .int 0, .int 0, .int (-1), .int 0, .int 0, .int 0, .ref k19, .ref k20, .ref k21, .ref k22, .ref k23, .int 0, .ref k25, .ref k26, .ref k27, .int 0, .int 0, .ref k30, .ref k31, .int 0, .ref k33, .int 0, .int 0, .ref k36, .ref k37, .ref k38, .ref k39]), (k1, eI (ty 0) 1875 tl_7), (k5, eI (ty 0) 900 (fun _ => 0))] (QV D ty (fun (w : va_W) => w = [(h0, eO 9 [.ref k0, .ref k1, .ref k2, .ref k3, .int 0, .ref k5, .int 0, .int 0, .int 0, .int 0, .int 0, .int 0, .int 0, .int 0, .int 0, .int (-1), .int 0, .int 0, .int 0, .ref k19, .ref k20, .ref k21, .ref k22, .ref k23, .int 0, .ref k25, .ref k26, .ref k27, .int 0, .int 0, .ref k30, .ref k31, .int 0, .ref k33, .int 0, .int 0, .ref k36, .ref k37, .ref k38, .ref k39]), (k1, eI (ty 0) 1875 tl_7), (k5, eI (ty 0) 900 (fun _ => 0))])) := by
  refine CC_of (by decide) ?_
  intro p e s m below meth c A C hP hD hS
  obtain ⟨⟨hx, hb, hml, hown, hts⟩, hr, hlocks, hnm, hK, hE, hA, hZ⟩ := id C
  refine startW [.ref h0] 2 (nle rfl) (lv := [(0, .ref h0)]) rfl (fun ls hl => ?_)
  refine lv_aload_n hx hb d_X9_readsOn_0 rfl (lv_at hl 0 rfl) ?_
  refine r_get (v := .int 0) C hP 0 rfl rfl lay_X9 8 (by decide) k_1553 rfl d_X9_readsOn_1 ?_
  refine lv_aload_n hx hb d_X9_readsOn_4 rfl (lv_at hl 0 rfl) ?_
  refine r_get (v := .int 0) C hP 0 rfl rfl lay_X9 7 (by decide) k_1552 rfl d_X9_readsOn_5 ?_
  refine b_icmp_geT C 52 d_X9_readsOn_8 (by decide) (by decide) ?_
  refine lv_aload_n hx hb d_X9_readsOn_52 rfl (lv_at hl 0 rfl) ?_
  refine lv_aload_n hx hb d_X9_readsOn_53 rfl (lv_at hl 0 rfl) ?_
  refine r_get (v := .int 0) C hP 0 rfl rfl lay_X9 8 (by decide) k_1553 rfl d_X9_readsOn_54 ?_
  refine r_put (w := [(h0, eO 9 [.ref k0, .ref k1, .ref k2, .ref k3, .int 0, .ref k5, .int 0, .int 0, .int 0, .int 0, .int 0, .int 0, .int 0, .int 0, .int 0, .int (-1), .int 0, .int 0, .int 0, .ref k19, .ref k20, .ref k21, .ref k22, .ref k23, .int 0, .ref k25, .ref k26, .ref k27, .int 0, .int 0, .ref k30, .ref k31, .int 0, .ref k33, .int 0, .int 0, .ref k36, .ref k37, .ref k38, .ref k39]), (k1, eI (ty 0) 1875 tl_7), (k5, eI (ty 0) 900 (fun _ => 0))]) C hP hD hS 0 rfl rfl lay_X9 tok_X9 nmo_X9 9 (by decide) k_1554 rfl rfl rfl (nle rfl) rfl d_X9_readsOn_57 (fun H locs hP hD hS => ?_)
  refine lv_aload_n hx hb d_X9_readsOn_60 rfl (lv_at hl 0 rfl) ?_
  refine r_get (v := .int 0) C hP 0 rfl rfl lay_X9 8 (by decide) k_1553 rfl d_X9_readsOn_61 ?_
  refine lv_aload_n hx hb d_X9_readsOn_64 rfl (lv_at hl 0 rfl) ?_
  refine r_get (v := .int 0) C hP 0 rfl rfl lay_X9 7 (by decide) k_1552 rfl d_X9_readsOn_65 ?_
  refine b_icmp_ltF C 77 d_X9_readsOn_68 (by decide) (by decide) ?_
  refine lv_aload_n hx hb d_X9_readsOn_71 rfl (lv_at hl 0 rfl) ?_
  refine lv_iconst (v := 0) hx hb d_X9_readsOn_72 (by decide) ?_
  refine r_put (w := [(h0, eO 9 [.ref k0, .ref k1, .ref k2, .ref k3, .int 0, .ref k5, .int 0, .int 0, .int 0, .int 0, .int 0, .int 0, .int 0, .int 0, .int 0, .int (-1), .int 0, .int 0, .int 0, .ref k19, .ref k20, .ref k21, .ref k22, .ref k23, .int 0, .ref k25, .ref k26, .ref k27, .int 0, .int 0, .ref k30, .ref k31, .int 0, .ref k33, .int 0, .int 0, .ref k36, .ref k37, .ref k38, .ref k39]), (k1, eI (ty 0) 1875 tl_7), (k5, eI (ty 0) 900 (fun _ => 0))]) C hP hD hS 0 rfl rfl lay_X9 tok_X9 nmo_X9 10 (by decide) k_1555 rfl rfl rfl (nle rfl) rfl d_X9_readsOn_73 (fun H locs hP hD hS => ?_)
  exact ret_V (w := [(h0, eO 9 [.ref k0, .ref k1, .ref k2, .ref k3, .int 0, .ref k5, .int 0, .int 0, .int 0, .int 0, .int 0, .int 0, .int 0, .int 0, .int 0, .int (-1), .int 0, .int 0, .int 0, .ref k19, .ref k20, .ref k21, .ref k22, .ref k23, .int 0, .ref k25, .ref k26, .ref k27, .int 0, .int 0, .ref k30, .ref k31, .int 0, .ref k33, .int 0, .int 0, .ref k36, .ref k37, .ref k38, .ref k39]), (k1, eI (ty 0) 1875 tl_7), (k5, eI (ty 0) 900 (fun _ => 0))]) C hP hD hS [0, 1, 2] rfl rfl rfl (by decide) (by decide) d_X9_readsOn_76
set_option maxHeartbeats 4000000 in
set_option maxRecDepth 100000 in
theorem a_X9_isWord_2 (l : Launch) (D : va_G) (ty : Nat → ClassId) (h0 : Nat) (k1 : Nat) (k5 : Nat) (sa_13 : Nat) (k0 : Nat) (k2 : Nat) (k3 : Nat) (k19 : Nat) (k20 : Nat) (k21 : Nat) (k22 : Nat) (k23 : Nat) (k25 : Nat) (k26 : Nat) (k27 : Nat) (k30 : Nat) (k31 : Nat) (k33 : Nat) (k36 : Nat) (k37 : Nat) (k38 : Nat) (k39 : Nat) (tl_7 : Nat → Int32) : CC l D ty ⟨"PinchedBillModel", "isWord", "(Ljava/lang/String;)Z"⟩ prog_11_method_14_code 4 (some .boolean) 0 0 0 0 [.ref h0, .ref sa_13] [(h0, eO 9 [.ref k0, .ref k1, .ref k2, .ref k3, .int 0, .ref k5, .int 0, .int 0, .int 0, .int 0, .int 0, .int 0, .int 0, .int 0, .int 0, .int (-1), .int 0, .int 0, .int 0, .ref k19, .ref k20, .ref k21, .ref k22, .ref k23, .int 0, .ref k25, .ref k26, .ref k27, .int 0, .int 0, .ref k30, .ref k31, .int 0, .ref k33, .int 0, .int 0, .ref k36, .ref k37, .ref k38, .ref k39]), (k1, eI (ty 0) 1875 tl_7), (k5, eI (ty 0) 900 (fun _ => 0))] (QI D ty (fun (r : Int32) (w : va_W) => 0 = r ∧ w = [(h0, eO 9 [.ref k0, .ref k1, .ref k2, .ref k3, .int 0, .ref k5, .int 0, .int 0, .int 0, .int 0, .int 0, .int 0, .int 0, .int 0, .int 0, .int (-1), .int 0, .int 0, .int 0, .ref k19, .ref k20, .ref k21, .ref k22, .ref k23, .int 0, .ref k25, .ref k26, .ref k27, .int 0, .int 0, .ref k30, .ref k31, .int 0, .ref k33, .int 0, .int 0, .ref k36, .ref k37, .ref k38, .ref k39]), (k1, eI (ty 0) 1875 tl_7), (k5, eI (ty 0) 900 (fun _ => 0))])) := by
  refine CC_of (by decide) ?_
  intro p e s m below meth c A C hP hD hS
  obtain ⟨⟨hx, hb, hml, hown, hts⟩, hr, hlocks, hnm, hK, hE, hA, hZ⟩ := id C
  refine startW [.ref h0, .ref sa_13] 4 (nle rfl) (lv := [(0, .ref h0), (1, .ref sa_13)]) rfl (fun ls hl => ?_)
  refine lv_aload_n hx hb d_X9_isWord_0 rfl (lv_at hl 0 rfl) ?_
  refine r_get (v := .int 0) C hP 0 rfl rfl lay_X9 12 (by decide) k_1557 rfl d_X9_isWord_1 ?_
  refine b_if_neF C 35 d_X9_isWord_4 (by decide) (by decide) ?_
  refine lv_aload_n hx hb d_X9_isWord_7 rfl (lv_at hl 0 rfl) ?_
  refine r_get (v := .int 0) C hP 0 rfl rfl lay_X9 10 (by decide) k_1555 rfl d_X9_isWord_8 ?_
  refine lv_iconst (v := 1) hx hb d_X9_isWord_11 (by decide) ?_
  refine b_icmp_neT C 35 d_X9_isWord_12 (by decide) (by decide) ?_
  refine lv_iconst (v := 0) hx hb d_X9_isWord_35 (by decide) ?_
  refine lv_istore_n (lv' := [(2, .int 0), (0, .ref h0), (1, .ref sa_13)]) hx hb d_X9_isWord_36 rfl hl (by decide) rfl (fun ls hl => ?_)
  refine lv_iconst (v := 0) hx hb d_X9_isWord_37 (by decide) ?_
  refine lv_istore_n (lv' := [(3, .int 0), (2, .int 0), (0, .ref h0), (1, .ref sa_13)]) hx hb d_X9_isWord_38 rfl hl (by decide) rfl (fun ls hl => ?_)
  refine lv_iload_n hx hb d_X9_isWord_39 rfl (lv_at hl 1 rfl) ?_
  refine b_if_eqT C 82 d_X9_isWord_40 (by decide) (by decide) ?_
  refine lv_iload_n hx hb d_X9_isWord_82 rfl (lv_at hl 1 rfl) ?_
  exact ret_Z (w := [(h0, eO 9 [.ref k0, .ref k1, .ref k2, .ref k3, .int 0, .ref k5, .int 0, .int 0, .int 0, .int 0, .int 0, .int 0, .int 0, .int 0, .int 0, .int (-1), .int 0, .int 0, .int 0, .ref k19, .ref k20, .ref k21, .ref k22, .ref k23, .int 0, .ref k25, .ref k26, .ref k27, .int 0, .int 0, .ref k30, .ref k31, .int 0, .ref k33, .int 0, .int 0, .ref k36, .ref k37, .ref k38, .ref k39]), (k1, eI (ty 0) 1875 tl_7), (k5, eI (ty 0) 900 (fun _ => 0))]) C rfl hP hD hS [0, 1, 2] rfl rfl ⟨rfl, rfl⟩ (by decide) (by decide) d_X9_isWord_83
set_option maxHeartbeats 4000000 in
set_option maxRecDepth 100000 in
theorem a_X9_took_2 (l : Launch) (D : va_G) (ty : Nat → ClassId) (h0 : Nat) (k1 : Nat) (k5 : Nat) (sa_13 : Nat) (k0 : Nat) (k2 : Nat) (k3 : Nat) (k19 : Nat) (k20 : Nat) (k21 : Nat) (k22 : Nat) (k23 : Nat) (k25 : Nat) (k26 : Nat) (k27 : Nat) (k30 : Nat) (k31 : Nat) (k33 : Nat) (k36 : Nat) (k37 : Nat) (k38 : Nat) (k39 : Nat) (tl_7 : Nat → Int32) : CC l D ty ⟨"PinchedBillModel", "took", "(Ljava/lang/String;)Z"⟩ prog_11_method_15_code 3 (some .boolean) 1 23 0 0 [.ref h0, .ref sa_13] [(h0, eO 9 [.ref k0, .ref k1, .ref k2, .ref k3, .int 0, .ref k5, .int 0, .int 0, .int 0, .int 0, .int 0, .int 0, .int 0, .int 0, .int 0, .int (-1), .int 0, .int 0, .int 0, .ref k19, .ref k20, .ref k21, .ref k22, .ref k23, .int 0, .ref k25, .ref k26, .ref k27, .int 0, .int 0, .ref k30, .ref k31, .int 0, .ref k33, .int 0, .int 0, .ref k36, .ref k37, .ref k38, .ref k39]), (k1, eI (ty 0) 1875 tl_7), (k5, eI (ty 0) 900 (fun _ => 0))] (QI D ty (fun (r : Int32) (w : va_W) => 0 = r ∧ w = [(h0, eO 9 [.ref k0, .ref k1, .ref k2, .ref k3, .int 0, .ref k5, .int 0, .int 0, .int 0, .int 0, .int 0, .int 0, .int 0, .int 0, .int 0, .int (-1), .int 0, .int 0, .int 0, .ref k19, .ref k20, .ref k21, .ref k22, .ref k23, .int 0, .ref k25, .ref k26, .ref k27, .int 0, .int 0, .ref k30, .ref k31, .int 0, .ref k33, .int 0, .int 0, .ref k36, .ref k37, .ref k38, .ref k39]), (k1, eI (ty 0) 1875 tl_7), (k5, eI (ty 0) 900 (fun _ => 0))])) := by
  refine CC_of (by decide) ?_
  intro p e s m below meth c A C hP hD hS
  obtain ⟨⟨hx, hb, hml, hown, hts⟩, hr, hlocks, hnm, hK, hE, hA, hZ⟩ := id C
  refine startW [.ref h0, .ref sa_13] 3 (nle rfl) (lv := [(0, .ref h0), (1, .ref sa_13)]) rfl (fun ls hl => ?_)
  refine lv_aload_n hx hb d_X9_took_0 rfl (lv_at hl 0 rfl) ?_
  refine lv_aload_n hx hb d_X9_took_1 rfl (lv_at hl 1 rfl) ?_
  have ct_1 : Cut [(h0, eO 9 [.ref k0, .ref k1, .ref k2, .ref k3, .int 0, .ref k5, .int 0, .int 0, .int 0, .int 0, .int 0, .int 0, .int 0, .int 0, .int 0, .int (-1), .int 0, .int 0, .int 0, .ref k19, .ref k20, .ref k21, .ref k22, .ref k23, .int 0, .ref k25, .ref k26, .ref k27, .int 0, .int 0, .ref k30, .ref k31, .int 0, .ref k33, .int 0, .int 0, .ref k36, .ref k37, .ref k38, .ref k39]), (k1, eI (ty 0) 1875 tl_7), (k5, eI (ty 0) 900 (fun _ => 0))] [(h0, eO 9 [.ref k0, .ref k1, .ref k2, .ref k3, .int 0, .ref k5, .int 0, .int 0, .int 0, .int 0, .int 0, .int 0, .int 0, .int 0, .int 0, .int (-1), .int 0, .int 0, .int 0, .ref k19, .ref k20, .ref k21, .ref k22, .ref k23, .int 0, .ref k25, .ref k26, .ref k27, .int 0, .int 0, .ref k30, .ref k31, .int 0, .ref k33, .int 0, .int 0, .ref k36, .ref k37, .ref k38, .ref k39]), (k1, eI (ty 0) 1875 tl_7), (k5, eI (ty 0) 900 (fun _ => 0))] [] [0, 1, 2] [] := ⟨rfl, rfl, rfl, rfl, by decide⟩
  refine cont_I C hP hD hS ct_1 (run_V (As := [.ref sa_13]) (rest := []) C hP hD hS ct_1 (a_X9_isWord_2 l D ty h0 k1 k5 sa_13 k0 k2 k3 k19 k20 k21 k22 k23 k25 k26 k27 k30 k31 k33 k36 k37 k38 k39 tl_7) kV_PinchedBillModel_129 0 rfl rfl rfl rfl hl.1 rfl (nle rfl) d_X9_took_2 ⟨by decide, by decide, by decide, by decide⟩) (fun r_3 w_4 H locs hw_2 hP hD hS => ?_)
  obtain ⟨rfl, rfl⟩ := hw_2
  have hP : va_P D vwCl [(h0, eO 9 [.ref k0, .ref k1, .ref k2, .ref k3, .int 0, .ref k5, .int 0, .int 0, .int 0, .int 0, .int 0, .int 0, .int 0, .int 0, .int 0, .int (-1), .int 0, .int 0, .int 0, .ref k19, .ref k20, .ref k21, .ref k22, .ref k23, .int 0, .ref k25, .ref k26, .ref k27, .int 0, .int 0, .ref k30, .ref k31, .int 0, .ref k33, .int 0, .int 0, .ref k36, .ref k37, .ref k38, .ref k39]), (k1, eI (ty 0) 1875 tl_7), (k5, eI (ty 0) 900 (fun _ => 0))] H := hP
  have hD : va_D A [(h0, eO 9 [.ref k0, .ref k1, .ref k2, .ref k3, .int 0, .ref k5, .int 0, .int 0, .int 0, .int 0, .int 0, .int 0, .int 0, .int 0, .int 0, .int (-1), .int 0, .int 0, .int 0, .ref k19, .ref k20, .ref k21, .ref k22, .ref k23, .int 0, .ref k25, .ref k26, .ref k27, .int 0, .int 0, .ref k30, .ref k31, .int 0, .ref k33, .int 0, .int 0, .ref k36, .ref k37, .ref k38, .ref k39]), (k1, eI (ty 0) 1875 tl_7), (k5, eI (ty 0) 900 (fun _ => 0))] := hD
  refine lv_istore_n (lv' := [(2, .int 0), (0, .ref h0), (1, .ref sa_13)]) hx hb d_X9_took_5 rfl hl (by decide) rfl (fun ls hl => ?_)
  refine lv_iload_n hx hb d_X9_took_6 rfl (lv_at hl 0 rfl) ?_
  refine b_if_eqT C 14 d_X9_took_7 (by decide) (by decide) ?_
  refine lv_iload_n hx hb d_X9_took_14 rfl (lv_at hl 0 rfl) ?_
  exact ret_Z (w := [(h0, eO 9 [.ref k0, .ref k1, .ref k2, .ref k3, .int 0, .ref k5, .int 0, .int 0, .int 0, .int 0, .int 0, .int 0, .int 0, .int 0, .int 0, .int (-1), .int 0, .int 0, .int 0, .ref k19, .ref k20, .ref k21, .ref k22, .ref k23, .int 0, .ref k25, .ref k26, .ref k27, .int 0, .int 0, .ref k30, .ref k31, .int 0, .ref k33, .int 0, .int 0, .ref k36, .ref k37, .ref k38, .ref k39]), (k1, eI (ty 0) 1875 tl_7), (k5, eI (ty 0) 900 (fun _ => 0))]) C rfl hP hD hS [0, 1, 2] rfl rfl ⟨rfl, rfl⟩ (by decide) (by decide) d_X9_took_15
set_option maxHeartbeats 4000000 in
set_option maxRecDepth 100000 in
theorem a_X9_blames_4 (l : Launch) (D : va_G) (ty : Nat → ClassId) (h0 : Nat) (k1 : Nat) (k5 : Nat) (k0 : Nat) (k2 : Nat) (k3 : Nat) (k19 : Nat) (k20 : Nat) (k21 : Nat) (k22 : Nat) (k23 : Nat) (k25 : Nat) (k26 : Nat) (k27 : Nat) (k30 : Nat) (k31 : Nat) (k33 : Nat) (k36 : Nat) (k37 : Nat) (k38 : Nat) (k39 : Nat) (tl_7 : Nat → Int32) : CC l D ty ⟨"PinchedBillModel", "blames", "(I)V"⟩ prog_11_method_13_code 2 none 0 0 0 0 [.ref h0, .int 2] [(h0, eO 9 [.ref k0, .ref k1, .ref k2, .ref k3, .int 0, .ref k5, .int 0, .int 0, .int 0, .int 0, .int 0, .int 0, .int 0, .int 0, .int 0, .int (-1), .int 0, .int 0, .int 0, .ref k19, .ref k20, .ref k21, .ref k22, .ref k23, .int 0, .ref k25, .ref k26, .ref k27, .int 0, .int 0, .ref k30, .ref k31, .int 0, .ref k33, .int 0, .int 0, .ref k36, .ref k37, .ref k38, .ref k39]), (k1, eI (ty 0) 1875 tl_7), (k5, eI (ty 0) 900 (fun _ => 0))] (QV D ty (fun (w : va_W) => w = [(h0, eO 9 [.ref k0, .ref k1, .ref k2, .ref k3, .int 0, .ref k5, .int 0, .int 0, .int 0, .int 0, .int 0, .int 0, .int 2, .int 0, .int 0, .int (-1), .int 0, .int 0, .int 0, .ref k19, .ref k20, .ref k21, .ref k22, .ref k23, .int 0, .ref k25, .ref k26, .ref k27, .int 0, .int 0, .ref k30, .ref k31, .int 0, .ref k33, .int 0, .int 0, .ref k36, .ref k37, .ref k38, .ref k39]), (k1, eI (ty 0) 1875 tl_7), (k5, eI (ty 0) 900 (fun _ => 0))])) := by
  refine CC_of (by decide) ?_
  intro p e s m below meth c A C hP hD hS
  obtain ⟨⟨hx, hb, hml, hown, hts⟩, hr, hlocks, hnm, hK, hE, hA, hZ⟩ := id C
  refine startW [.ref h0, .int 2] 2 (nle rfl) (lv := [(0, .ref h0), (1, .int 2)]) rfl (fun ls hl => ?_)
  refine lv_aload_n hx hb d_X9_blames_0 rfl (lv_at hl 0 rfl) ?_
  refine r_get (v := .int 0) C hP 0 rfl rfl lay_X9 12 (by decide) k_1557 rfl d_X9_blames_1 ?_
  refine b_if_eqT C 8 d_X9_blames_4 (by decide) (by decide) ?_
  refine lv_aload_n hx hb d_X9_blames_8 rfl (lv_at hl 0 rfl) ?_
  refine lv_aload_n hx hb d_X9_blames_9 rfl (lv_at hl 0 rfl) ?_
  refine r_get (v := .int 0) C hP 0 rfl rfl lay_X9 10 (by decide) k_1555 rfl d_X9_blames_10 ?_
  refine lv_iconst (v := 3) hx hb d_X9_blames_13 (by decide) ?_
  refine b_icmp_neT C 21 d_X9_blames_14 (by decide) (by decide) ?_
  refine lv_iload_n hx hb d_X9_blames_21 rfl (lv_at hl 1 rfl) ?_
  refine r_put (w := [(h0, eO 9 [.ref k0, .ref k1, .ref k2, .ref k3, .int 0, .ref k5, .int 0, .int 0, .int 0, .int 0, .int 0, .int 0, .int 2, .int 0, .int 0, .int (-1), .int 0, .int 0, .int 0, .ref k19, .ref k20, .ref k21, .ref k22, .ref k23, .int 0, .ref k25, .ref k26, .ref k27, .int 0, .int 0, .ref k30, .ref k31, .int 0, .ref k33, .int 0, .int 0, .ref k36, .ref k37, .ref k38, .ref k39]), (k1, eI (ty 0) 1875 tl_7), (k5, eI (ty 0) 900 (fun _ => 0))]) C hP hD hS 0 rfl rfl lay_X9 tok_X9 nmo_X9 12 (by decide) k_1557 rfl rfl rfl (nle rfl) rfl d_X9_blames_22 (fun H locs hP hD hS => ?_)
  refine lv_aload_n hx hb d_X9_blames_25 rfl (lv_at hl 0 rfl) ?_
  refine lv_aload_n hx hb d_X9_blames_26 rfl (lv_at hl 0 rfl) ?_
  refine r_get (v := .int 0) C hP 0 rfl rfl lay_X9 9 (by decide) k_1554 rfl d_X9_blames_27 ?_
  refine r_put (w := [(h0, eO 9 [.ref k0, .ref k1, .ref k2, .ref k3, .int 0, .ref k5, .int 0, .int 0, .int 0, .int 0, .int 0, .int 0, .int 2, .int 0, .int 0, .int (-1), .int 0, .int 0, .int 0, .ref k19, .ref k20, .ref k21, .ref k22, .ref k23, .int 0, .ref k25, .ref k26, .ref k27, .int 0, .int 0, .ref k30, .ref k31, .int 0, .ref k33, .int 0, .int 0, .ref k36, .ref k37, .ref k38, .ref k39]), (k1, eI (ty 0) 1875 tl_7), (k5, eI (ty 0) 900 (fun _ => 0))]) C hP hD hS 0 rfl rfl lay_X9 tok_X9 nmo_X9 13 (by decide) k_1558 rfl rfl rfl (nle rfl) rfl d_X9_blames_30 (fun H locs hP hD hS => ?_)
  exact ret_V (w := [(h0, eO 9 [.ref k0, .ref k1, .ref k2, .ref k3, .int 0, .ref k5, .int 0, .int 0, .int 0, .int 0, .int 0, .int 0, .int 2, .int 0, .int 0, .int (-1), .int 0, .int 0, .int 0, .ref k19, .ref k20, .ref k21, .ref k22, .ref k23, .int 0, .ref k25, .ref k26, .ref k27, .int 0, .int 0, .ref k30, .ref k31, .int 0, .ref k33, .int 0, .int 0, .ref k36, .ref k37, .ref k38, .ref k39]), (k1, eI (ty 0) 1875 tl_7), (k5, eI (ty 0) 900 (fun _ => 0))]) C hP hD hS [0, 1, 2] rfl rfl rfl (by decide) (by decide) d_X9_blames_33
set_option maxHeartbeats 4000000 in
set_option maxRecDepth 100000 in
theorem a_X9_mustWord_2 (l : Launch) (D : va_G) (ty : Nat → ClassId) (h0 : Nat) (k1 : Nat) (k5 : Nat) (sa_13 : Nat) (k0 : Nat) (k2 : Nat) (k3 : Nat) (k19 : Nat) (k20 : Nat) (k21 : Nat) (k22 : Nat) (k23 : Nat) (k25 : Nat) (k26 : Nat) (k27 : Nat) (k30 : Nat) (k31 : Nat) (k33 : Nat) (k36 : Nat) (k37 : Nat) (k38 : Nat) (k39 : Nat) (tl_7 : Nat → Int32) : CC l D ty ⟨"PinchedBillModel", "mustWord", "(Ljava/lang/String;)V"⟩ prog_11_method_19_code 2 none 2 45 0 0 [.ref h0, .ref sa_13] [(h0, eO 9 [.ref k0, .ref k1, .ref k2, .ref k3, .int 0, .ref k5, .int 0, .int 0, .int 0, .int 0, .int 0, .int 0, .int 0, .int 0, .int 0, .int (-1), .int 0, .int 0, .int 0, .ref k19, .ref k20, .ref k21, .ref k22, .ref k23, .int 0, .ref k25, .ref k26, .ref k27, .int 0, .int 0, .ref k30, .ref k31, .int 0, .ref k33, .int 0, .int 0, .ref k36, .ref k37, .ref k38, .ref k39]), (k1, eI (ty 0) 1875 tl_7), (k5, eI (ty 0) 900 (fun _ => 0))] (QV D ty (fun (w : va_W) => w = [(h0, eO 9 [.ref k0, .ref k1, .ref k2, .ref k3, .int 0, .ref k5, .int 0, .int 0, .int 0, .int 0, .int 0, .int 0, .int 2, .int 0, .int 0, .int (-1), .int 0, .int 0, .int 0, .ref k19, .ref k20, .ref k21, .ref k22, .ref k23, .int 0, .ref k25, .ref k26, .ref k27, .int 0, .int 0, .ref k30, .ref k31, .int 0, .ref k33, .int 0, .int 0, .ref k36, .ref k37, .ref k38, .ref k39]), (k1, eI (ty 0) 1875 tl_7), (k5, eI (ty 0) 900 (fun _ => 0))])) := by
  refine CC_of (by decide) ?_
  intro p e s m below meth c A C hP hD hS
  obtain ⟨⟨hx, hb, hml, hown, hts⟩, hr, hlocks, hnm, hK, hE, hA, hZ⟩ := id C
  refine startW [.ref h0, .ref sa_13] 2 (nle rfl) (lv := [(0, .ref h0), (1, .ref sa_13)]) rfl (fun ls hl => ?_)
  refine lv_aload_n hx hb d_X9_mustWord_0 rfl (lv_at hl 0 rfl) ?_
  refine lv_aload_n hx hb d_X9_mustWord_1 rfl (lv_at hl 1 rfl) ?_
  have ct_1 : Cut [(h0, eO 9 [.ref k0, .ref k1, .ref k2, .ref k3, .int 0, .ref k5, .int 0, .int 0, .int 0, .int 0, .int 0, .int 0, .int 0, .int 0, .int 0, .int (-1), .int 0, .int 0, .int 0, .ref k19, .ref k20, .ref k21, .ref k22, .ref k23, .int 0, .ref k25, .ref k26, .ref k27, .int 0, .int 0, .ref k30, .ref k31, .int 0, .ref k33, .int 0, .int 0, .ref k36, .ref k37, .ref k38, .ref k39]), (k1, eI (ty 0) 1875 tl_7), (k5, eI (ty 0) 900 (fun _ => 0))] [(h0, eO 9 [.ref k0, .ref k1, .ref k2, .ref k3, .int 0, .ref k5, .int 0, .int 0, .int 0, .int 0, .int 0, .int 0, .int 0, .int 0, .int 0, .int (-1), .int 0, .int 0, .int 0, .ref k19, .ref k20, .ref k21, .ref k22, .ref k23, .int 0, .ref k25, .ref k26, .ref k27, .int 0, .int 0, .ref k30, .ref k31, .int 0, .ref k33, .int 0, .int 0, .ref k36, .ref k37, .ref k38, .ref k39]), (k1, eI (ty 0) 1875 tl_7), (k5, eI (ty 0) 900 (fun _ => 0))] [] [0, 1, 2] [] := ⟨rfl, rfl, rfl, rfl, by decide⟩
  refine cont_I C hP hD hS ct_1 (run_V (As := [.ref sa_13]) (rest := []) C hP hD hS ct_1 (a_X9_took_2 l D ty h0 k1 k5 sa_13 k0 k2 k3 k19 k20 k21 k22 k23 k25 k26 k27 k30 k31 k33 k36 k37 k38 k39 tl_7) kV_PinchedBillModel_144 0 rfl rfl rfl rfl hl.1 rfl (nle rfl) d_X9_mustWord_2 ⟨by decide, by decide, by decide, by decide⟩) (fun r_3 w_4 H locs hw_2 hP hD hS => ?_)
  obtain ⟨rfl, rfl⟩ := hw_2
  have hP : va_P D vwCl [(h0, eO 9 [.ref k0, .ref k1, .ref k2, .ref k3, .int 0, .ref k5, .int 0, .int 0, .int 0, .int 0, .int 0, .int 0, .int 0, .int 0, .int 0, .int (-1), .int 0, .int 0, .int 0, .ref k19, .ref k20, .ref k21, .ref k22, .ref k23, .int 0, .ref k25, .ref k26, .ref k27, .int 0, .int 0, .ref k30, .ref k31, .int 0, .ref k33, .int 0, .int 0, .ref k36, .ref k37, .ref k38, .ref k39]), (k1, eI (ty 0) 1875 tl_7), (k5, eI (ty 0) 900 (fun _ => 0))] H := hP
  have hD : va_D A [(h0, eO 9 [.ref k0, .ref k1, .ref k2, .ref k3, .int 0, .ref k5, .int 0, .int 0, .int 0, .int 0, .int 0, .int 0, .int 0, .int 0, .int 0, .int (-1), .int 0, .int 0, .int 0, .ref k19, .ref k20, .ref k21, .ref k22, .ref k23, .int 0, .ref k25, .ref k26, .ref k27, .int 0, .int 0, .ref k30, .ref k31, .int 0, .ref k33, .int 0, .int 0, .ref k36, .ref k37, .ref k38, .ref k39]), (k1, eI (ty 0) 1875 tl_7), (k5, eI (ty 0) 900 (fun _ => 0))] := hD
  refine b_if_neF C 13 d_X9_mustWord_5 (by decide) (by decide) ?_
  refine lv_aload_n hx hb d_X9_mustWord_8 rfl (lv_at hl 0 rfl) ?_
  refine lv_iconst (v := 2) hx hb d_X9_mustWord_9 (by decide) ?_
  have ct_5 : Cut [(h0, eO 9 [.ref k0, .ref k1, .ref k2, .ref k3, .int 0, .ref k5, .int 0, .int 0, .int 0, .int 0, .int 0, .int 0, .int 0, .int 0, .int 0, .int (-1), .int 0, .int 0, .int 0, .ref k19, .ref k20, .ref k21, .ref k22, .ref k23, .int 0, .ref k25, .ref k26, .ref k27, .int 0, .int 0, .ref k30, .ref k31, .int 0, .ref k33, .int 0, .int 0, .ref k36, .ref k37, .ref k38, .ref k39]), (k1, eI (ty 0) 1875 tl_7), (k5, eI (ty 0) 900 (fun _ => 0))] [(h0, eO 9 [.ref k0, .ref k1, .ref k2, .ref k3, .int 0, .ref k5, .int 0, .int 0, .int 0, .int 0, .int 0, .int 0, .int 0, .int 0, .int 0, .int (-1), .int 0, .int 0, .int 0, .ref k19, .ref k20, .ref k21, .ref k22, .ref k23, .int 0, .ref k25, .ref k26, .ref k27, .int 0, .int 0, .ref k30, .ref k31, .int 0, .ref k33, .int 0, .int 0, .ref k36, .ref k37, .ref k38, .ref k39]), (k1, eI (ty 0) 1875 tl_7), (k5, eI (ty 0) 900 (fun _ => 0))] [] [0, 1, 2] [] := ⟨rfl, rfl, rfl, rfl, by decide⟩
  refine cont_V C hP hD hS ct_5 (run_V (As := [.int 2]) (rest := []) C hP hD hS ct_5 (a_X9_blames_4 l D ty h0 k1 k5 k0 k2 k3 k19 k20 k21 k22 k23 k25 k26 k27 k30 k31 k33 k36 k37 k38 k39 tl_7) kV_PinchedBillModel_136 0 rfl rfl rfl rfl hl.1 rfl (nle rfl) d_X9_mustWord_10 ⟨by decide, by decide, by decide, by decide⟩) (fun w_8 H locs hw_6 hP hD hS => ?_)
  subst hw_6
  have hP : va_P D vwCl [(h0, eO 9 [.ref k0, .ref k1, .ref k2, .ref k3, .int 0, .ref k5, .int 0, .int 0, .int 0, .int 0, .int 0, .int 0, .int 2, .int 0, .int 0, .int (-1), .int 0, .int 0, .int 0, .ref k19, .ref k20, .ref k21, .ref k22, .ref k23, .int 0, .ref k25, .ref k26, .ref k27, .int 0, .int 0, .ref k30, .ref k31, .int 0, .ref k33, .int 0, .int 0, .ref k36, .ref k37, .ref k38, .ref k39]), (k1, eI (ty 0) 1875 tl_7), (k5, eI (ty 0) 900 (fun _ => 0))] H := hP
  have hD : va_D A [(h0, eO 9 [.ref k0, .ref k1, .ref k2, .ref k3, .int 0, .ref k5, .int 0, .int 0, .int 0, .int 0, .int 0, .int 0, .int 2, .int 0, .int 0, .int (-1), .int 0, .int 0, .int 0, .ref k19, .ref k20, .ref k21, .ref k22, .ref k23, .int 0, .ref k25, .ref k26, .ref k27, .int 0, .int 0, .ref k30, .ref k31, .int 0, .ref k33, .int 0, .int 0, .ref k36, .ref k37, .ref k38, .ref k39]), (k1, eI (ty 0) 1875 tl_7), (k5, eI (ty 0) 900 (fun _ => 0))] := hD
  exact ret_V (w := [(h0, eO 9 [.ref k0, .ref k1, .ref k2, .ref k3, .int 0, .ref k5, .int 0, .int 0, .int 0, .int 0, .int 0, .int 0, .int 2, .int 0, .int 0, .int (-1), .int 0, .int 0, .int 0, .ref k19, .ref k20, .ref k21, .ref k22, .ref k23, .int 0, .ref k25, .ref k26, .ref k27, .int 0, .int 0, .ref k30, .ref k31, .int 0, .ref k33, .int 0, .int 0, .ref k36, .ref k37, .ref k38, .ref k39]), (k1, eI (ty 0) 1875 tl_7), (k5, eI (ty 0) 900 (fun _ => 0))]) C hP hD hS [0, 1, 2] rfl rfl rfl (by decide) (by decide) d_X9_mustWord_13
set_option maxHeartbeats 4000000 in
set_option maxRecDepth 100000 in
theorem a_X9_isWord_6 (l : Launch) (D : va_G) (ty : Nat → ClassId) (h0 : Nat) (k1 : Nat) (k5 : Nat) (sa_19 : Nat) (k0 : Nat) (k2 : Nat) (k3 : Nat) (k19 : Nat) (k20 : Nat) (k21 : Nat) (k22 : Nat) (k23 : Nat) (k25 : Nat) (k26 : Nat) (k27 : Nat) (k30 : Nat) (k31 : Nat) (k33 : Nat) (k36 : Nat) (k37 : Nat) (k38 : Nat) (k39 : Nat) (tl_7 : Nat → Int32) : CC l D ty ⟨"PinchedBillModel", "isWord", "(Ljava/lang/String;)Z"⟩ prog_11_method_14_code 4 (some .boolean) 0 0 0 0 [.ref h0, .ref sa_19] [(h0, eO 9 [.ref k0, .ref k1, .ref k2, .ref k3, .int 0, .ref k5, .int 0, .int 0, .int 0, .int 0, .int 0, .int 0, .int 2, .int 0, .int 0, .int (-1), .int 0, .int 0, .int 0, .ref k19, .ref k20, .ref k21, .ref k22, .ref k23, .int 0, .ref k25, .ref k26, .ref k27, .int 0, .int 0, .ref k30, .ref k31, .int 0, .ref k33, .int 0, .int 0, .ref k36, .ref k37, .ref k38, .ref k39]), (k1, eI (ty 0) 1875 tl_7), (k5, eI (ty 0) 900 (fun _ => 0))] (QI D ty (fun (r : Int32) (w : va_W) => 0 = r ∧ w = [(h0, eO 9 [.ref k0, .ref k1, .ref k2, .ref k3, .int 0, .ref k5, .int 0, .int 0, .int 0, .int 0, .int 0, .int 0, .int 2, .int 0, .int 0, .int (-1), .int 0, .int 0, .int 0, .ref k19, .ref k20, .ref k21, .ref k22, .ref k23, .int 0, .ref k25, .ref k26, .ref k27, .int 0, .int 0, .ref k30, .ref k31, .int 0, .ref k33, .int 0, .int 0, .ref k36, .ref k37, .ref k38, .ref k39]), (k1, eI (ty 0) 1875 tl_7), (k5, eI (ty 0) 900 (fun _ => 0))])) := by
  refine CC_of (by decide) ?_
  intro p e s m below meth c A C hP hD hS
  obtain ⟨⟨hx, hb, hml, hown, hts⟩, hr, hlocks, hnm, hK, hE, hA, hZ⟩ := id C
  refine startW [.ref h0, .ref sa_19] 4 (nle rfl) (lv := [(0, .ref h0), (1, .ref sa_19)]) rfl (fun ls hl => ?_)
  refine lv_aload_n hx hb d_X9_isWord_0 rfl (lv_at hl 0 rfl) ?_
  refine r_get (v := .int 2) C hP 0 rfl rfl lay_X9 12 (by decide) k_1557 rfl d_X9_isWord_1 ?_
  refine b_if_neT C 35 d_X9_isWord_4 (by decide) (by decide) ?_
  refine lv_iconst (v := 0) hx hb d_X9_isWord_35 (by decide) ?_
  refine lv_istore_n (lv' := [(2, .int 0), (0, .ref h0), (1, .ref sa_19)]) hx hb d_X9_isWord_36 rfl hl (by decide) rfl (fun ls hl => ?_)
  refine lv_iconst (v := 0) hx hb d_X9_isWord_37 (by decide) ?_
  refine lv_istore_n (lv' := [(3, .int 0), (2, .int 0), (0, .ref h0), (1, .ref sa_19)]) hx hb d_X9_isWord_38 rfl hl (by decide) rfl (fun ls hl => ?_)
  refine lv_iload_n hx hb d_X9_isWord_39 rfl (lv_at hl 1 rfl) ?_
  refine b_if_eqT C 82 d_X9_isWord_40 (by decide) (by decide) ?_
  refine lv_iload_n hx hb d_X9_isWord_82 rfl (lv_at hl 1 rfl) ?_
  exact ret_Z (w := [(h0, eO 9 [.ref k0, .ref k1, .ref k2, .ref k3, .int 0, .ref k5, .int 0, .int 0, .int 0, .int 0, .int 0, .int 0, .int 2, .int 0, .int 0, .int (-1), .int 0, .int 0, .int 0, .ref k19, .ref k20, .ref k21, .ref k22, .ref k23, .int 0, .ref k25, .ref k26, .ref k27, .int 0, .int 0, .ref k30, .ref k31, .int 0, .ref k33, .int 0, .int 0, .ref k36, .ref k37, .ref k38, .ref k39]), (k1, eI (ty 0) 1875 tl_7), (k5, eI (ty 0) 900 (fun _ => 0))]) C rfl hP hD hS [0, 1, 2] rfl rfl ⟨rfl, rfl⟩ (by decide) (by decide) d_X9_isWord_83
set_option maxHeartbeats 4000000 in
set_option maxRecDepth 100000 in
theorem a_X9_took_6 (l : Launch) (D : va_G) (ty : Nat → ClassId) (h0 : Nat) (k1 : Nat) (k5 : Nat) (sa_19 : Nat) (k0 : Nat) (k2 : Nat) (k3 : Nat) (k19 : Nat) (k20 : Nat) (k21 : Nat) (k22 : Nat) (k23 : Nat) (k25 : Nat) (k26 : Nat) (k27 : Nat) (k30 : Nat) (k31 : Nat) (k33 : Nat) (k36 : Nat) (k37 : Nat) (k38 : Nat) (k39 : Nat) (tl_7 : Nat → Int32) : CC l D ty ⟨"PinchedBillModel", "took", "(Ljava/lang/String;)Z"⟩ prog_11_method_15_code 3 (some .boolean) 1 23 0 0 [.ref h0, .ref sa_19] [(h0, eO 9 [.ref k0, .ref k1, .ref k2, .ref k3, .int 0, .ref k5, .int 0, .int 0, .int 0, .int 0, .int 0, .int 0, .int 2, .int 0, .int 0, .int (-1), .int 0, .int 0, .int 0, .ref k19, .ref k20, .ref k21, .ref k22, .ref k23, .int 0, .ref k25, .ref k26, .ref k27, .int 0, .int 0, .ref k30, .ref k31, .int 0, .ref k33, .int 0, .int 0, .ref k36, .ref k37, .ref k38, .ref k39]), (k1, eI (ty 0) 1875 tl_7), (k5, eI (ty 0) 900 (fun _ => 0))] (QI D ty (fun (r : Int32) (w : va_W) => 0 = r ∧ w = [(h0, eO 9 [.ref k0, .ref k1, .ref k2, .ref k3, .int 0, .ref k5, .int 0, .int 0, .int 0, .int 0, .int 0, .int 0, .int 2, .int 0, .int 0, .int (-1), .int 0, .int 0, .int 0, .ref k19, .ref k20, .ref k21, .ref k22, .ref k23, .int 0, .ref k25, .ref k26, .ref k27, .int 0, .int 0, .ref k30, .ref k31, .int 0, .ref k33, .int 0, .int 0, .ref k36, .ref k37, .ref k38, .ref k39]), (k1, eI (ty 0) 1875 tl_7), (k5, eI (ty 0) 900 (fun _ => 0))])) := by
  refine CC_of (by decide) ?_
  intro p e s m below meth c A C hP hD hS
  obtain ⟨⟨hx, hb, hml, hown, hts⟩, hr, hlocks, hnm, hK, hE, hA, hZ⟩ := id C
  refine startW [.ref h0, .ref sa_19] 3 (nle rfl) (lv := [(0, .ref h0), (1, .ref sa_19)]) rfl (fun ls hl => ?_)
  refine lv_aload_n hx hb d_X9_took_0 rfl (lv_at hl 0 rfl) ?_
  refine lv_aload_n hx hb d_X9_took_1 rfl (lv_at hl 1 rfl) ?_
  have ct_1 : Cut [(h0, eO 9 [.ref k0, .ref k1, .ref k2, .ref k3, .int 0, .ref k5, .int 0, .int 0, .int 0, .int 0, .int 0, .int 0, .int 2, .int 0, .int 0, .int (-1), .int 0, .int 0, .int 0, .ref k19, .ref k20, .ref k21, .ref k22, .ref k23, .int 0, .ref k25, .ref k26, .ref k27, .int 0, .int 0, .ref k30, .ref k31, .int 0, .ref k33, .int 0, .int 0, .ref k36, .ref k37, .ref k38, .ref k39]), (k1, eI (ty 0) 1875 tl_7), (k5, eI (ty 0) 900 (fun _ => 0))] [(h0, eO 9 [.ref k0, .ref k1, .ref k2, .ref k3, .int 0, .ref k5, .int 0, .int 0, .int 0, .int 0, .int 0, .int 0, .int 2, .int 0, .int 0, .int (-1), .int 0, .int 0, .int 0, .ref k19, .ref k20, .ref k21, .ref k22, .ref k23, .int 0, .ref k25, .ref k26, .ref k27, .int 0, .int 0, .ref k30, .ref k31, .int 0, .ref k33, .int 0, .int 0, .ref k36, .ref k37, .ref k38, .ref k39]), (k1, eI (ty 0) 1875 tl_7), (k5, eI (ty 0) 900 (fun _ => 0))] [] [0, 1, 2] [] := ⟨rfl, rfl, rfl, rfl, by decide⟩
  refine cont_I C hP hD hS ct_1 (run_V (As := [.ref sa_19]) (rest := []) C hP hD hS ct_1 (a_X9_isWord_6 l D ty h0 k1 k5 sa_19 k0 k2 k3 k19 k20 k21 k22 k23 k25 k26 k27 k30 k31 k33 k36 k37 k38 k39 tl_7) kV_PinchedBillModel_129 0 rfl rfl rfl rfl hl.1 rfl (nle rfl) d_X9_took_2 ⟨by decide, by decide, by decide, by decide⟩) (fun r_3 w_4 H locs hw_2 hP hD hS => ?_)
  obtain ⟨rfl, rfl⟩ := hw_2
  have hP : va_P D vwCl [(h0, eO 9 [.ref k0, .ref k1, .ref k2, .ref k3, .int 0, .ref k5, .int 0, .int 0, .int 0, .int 0, .int 0, .int 0, .int 2, .int 0, .int 0, .int (-1), .int 0, .int 0, .int 0, .ref k19, .ref k20, .ref k21, .ref k22, .ref k23, .int 0, .ref k25, .ref k26, .ref k27, .int 0, .int 0, .ref k30, .ref k31, .int 0, .ref k33, .int 0, .int 0, .ref k36, .ref k37, .ref k38, .ref k39]), (k1, eI (ty 0) 1875 tl_7), (k5, eI (ty 0) 900 (fun _ => 0))] H := hP
  have hD : va_D A [(h0, eO 9 [.ref k0, .ref k1, .ref k2, .ref k3, .int 0, .ref k5, .int 0, .int 0, .int 0, .int 0, .int 0, .int 0, .int 2, .int 0, .int 0, .int (-1), .int 0, .int 0, .int 0, .ref k19, .ref k20, .ref k21, .ref k22, .ref k23, .int 0, .ref k25, .ref k26, .ref k27, .int 0, .int 0, .ref k30, .ref k31, .int 0, .ref k33, .int 0, .int 0, .ref k36, .ref k37, .ref k38, .ref k39]), (k1, eI (ty 0) 1875 tl_7), (k5, eI (ty 0) 900 (fun _ => 0))] := hD
  refine lv_istore_n (lv' := [(2, .int 0), (0, .ref h0), (1, .ref sa_19)]) hx hb d_X9_took_5 rfl hl (by decide) rfl (fun ls hl => ?_)
  refine lv_iload_n hx hb d_X9_took_6 rfl (lv_at hl 0 rfl) ?_
  refine b_if_eqT C 14 d_X9_took_7 (by decide) (by decide) ?_
  refine lv_iload_n hx hb d_X9_took_14 rfl (lv_at hl 0 rfl) ?_
  exact ret_Z (w := [(h0, eO 9 [.ref k0, .ref k1, .ref k2, .ref k3, .int 0, .ref k5, .int 0, .int 0, .int 0, .int 0, .int 0, .int 0, .int 2, .int 0, .int 0, .int (-1), .int 0, .int 0, .int 0, .ref k19, .ref k20, .ref k21, .ref k22, .ref k23, .int 0, .ref k25, .ref k26, .ref k27, .int 0, .int 0, .ref k30, .ref k31, .int 0, .ref k33, .int 0, .int 0, .ref k36, .ref k37, .ref k38, .ref k39]), (k1, eI (ty 0) 1875 tl_7), (k5, eI (ty 0) 900 (fun _ => 0))]) C rfl hP hD hS [0, 1, 2] rfl rfl ⟨rfl, rfl⟩ (by decide) (by decide) d_X9_took_15
set_option maxHeartbeats 4000000 in
set_option maxRecDepth 100000 in
theorem a_X9_blames_8 (l : Launch) (D : va_G) (ty : Nat → ClassId) (h0 : Nat) (k1 : Nat) (k5 : Nat) (k0 : Nat) (k2 : Nat) (k3 : Nat) (k19 : Nat) (k20 : Nat) (k21 : Nat) (k22 : Nat) (k23 : Nat) (k25 : Nat) (k26 : Nat) (k27 : Nat) (k30 : Nat) (k31 : Nat) (k33 : Nat) (k36 : Nat) (k37 : Nat) (k38 : Nat) (k39 : Nat) (tl_7 : Nat → Int32) : CC l D ty ⟨"PinchedBillModel", "blames", "(I)V"⟩ prog_11_method_13_code 2 none 0 0 0 0 [.ref h0, .int 2] [(h0, eO 9 [.ref k0, .ref k1, .ref k2, .ref k3, .int 0, .ref k5, .int 0, .int 0, .int 0, .int 0, .int 0, .int 0, .int 2, .int 0, .int 0, .int (-1), .int 0, .int 0, .int 0, .ref k19, .ref k20, .ref k21, .ref k22, .ref k23, .int 0, .ref k25, .ref k26, .ref k27, .int 0, .int 0, .ref k30, .ref k31, .int 0, .ref k33, .int 0, .int 0, .ref k36, .ref k37, .ref k38, .ref k39]), (k1, eI (ty 0) 1875 tl_7), (k5, eI (ty 0) 900 (fun _ => 0))] (QV D ty (fun (w : va_W) => w = [(h0, eO 9 [.ref k0, .ref k1, .ref k2, .ref k3, .int 0, .ref k5, .int 0, .int 0, .int 0, .int 0, .int 0, .int 0, .int 2, .int 0, .int 0, .int (-1), .int 0, .int 0, .int 0, .ref k19, .ref k20, .ref k21, .ref k22, .ref k23, .int 0, .ref k25, .ref k26, .ref k27, .int 0, .int 0, .ref k30, .ref k31, .int 0, .ref k33, .int 0, .int 0, .ref k36, .ref k37, .ref k38, .ref k39]), (k1, eI (ty 0) 1875 tl_7), (k5, eI (ty 0) 900 (fun _ => 0))])) := by
  refine CC_of (by decide) ?_
  intro p e s m below meth c A C hP hD hS
  obtain ⟨⟨hx, hb, hml, hown, hts⟩, hr, hlocks, hnm, hK, hE, hA, hZ⟩ := id C
  refine startW [.ref h0, .int 2] 2 (nle rfl) (lv := [(0, .ref h0), (1, .int 2)]) rfl (fun ls hl => ?_)
  refine lv_aload_n hx hb d_X9_blames_0 rfl (lv_at hl 0 rfl) ?_
  refine r_get (v := .int 2) C hP 0 rfl rfl lay_X9 12 (by decide) k_1557 rfl d_X9_blames_1 ?_
  refine b_if_eqF C 8 d_X9_blames_4 (by decide) (by decide) ?_
  exact ret_V (w := [(h0, eO 9 [.ref k0, .ref k1, .ref k2, .ref k3, .int 0, .ref k5, .int 0, .int 0, .int 0, .int 0, .int 0, .int 0, .int 2, .int 0, .int 0, .int (-1), .int 0, .int 0, .int 0, .ref k19, .ref k20, .ref k21, .ref k22, .ref k23, .int 0, .ref k25, .ref k26, .ref k27, .int 0, .int 0, .ref k30, .ref k31, .int 0, .ref k33, .int 0, .int 0, .ref k36, .ref k37, .ref k38, .ref k39]), (k1, eI (ty 0) 1875 tl_7), (k5, eI (ty 0) 900 (fun _ => 0))]) C hP hD hS [0, 1, 2] rfl rfl rfl (by decide) (by decide) d_X9_blames_7
set_option maxHeartbeats 4000000 in
set_option maxRecDepth 100000 in
theorem a_X9_mustWord_6 (l : Launch) (D : va_G) (ty : Nat → ClassId) (h0 : Nat) (k1 : Nat) (k5 : Nat) (sa_19 : Nat) (k0 : Nat) (k2 : Nat) (k3 : Nat) (k19 : Nat) (k20 : Nat) (k21 : Nat) (k22 : Nat) (k23 : Nat) (k25 : Nat) (k26 : Nat) (k27 : Nat) (k30 : Nat) (k31 : Nat) (k33 : Nat) (k36 : Nat) (k37 : Nat) (k38 : Nat) (k39 : Nat) (tl_7 : Nat → Int32) : CC l D ty ⟨"PinchedBillModel", "mustWord", "(Ljava/lang/String;)V"⟩ prog_11_method_19_code 2 none 2 45 0 0 [.ref h0, .ref sa_19] [(h0, eO 9 [.ref k0, .ref k1, .ref k2, .ref k3, .int 0, .ref k5, .int 0, .int 0, .int 0, .int 0, .int 0, .int 0, .int 2, .int 0, .int 0, .int (-1), .int 0, .int 0, .int 0, .ref k19, .ref k20, .ref k21, .ref k22, .ref k23, .int 0, .ref k25, .ref k26, .ref k27, .int 0, .int 0, .ref k30, .ref k31, .int 0, .ref k33, .int 0, .int 0, .ref k36, .ref k37, .ref k38, .ref k39]), (k1, eI (ty 0) 1875 tl_7), (k5, eI (ty 0) 900 (fun _ => 0))] (QV D ty (fun (w : va_W) => w = [(h0, eO 9 [.ref k0, .ref k1, .ref k2, .ref k3, .int 0, .ref k5, .int 0, .int 0, .int 0, .int 0, .int 0, .int 0, .int 2, .int 0, .int 0, .int (-1), .int 0, .int 0, .int 0, .ref k19, .ref k20, .ref k21, .ref k22, .ref k23, .int 0, .ref k25, .ref k26, .ref k27, .int 0, .int 0, .ref k30, .ref k31, .int 0, .ref k33, .int 0, .int 0, .ref k36, .ref k37, .ref k38, .ref k39]), (k1, eI (ty 0) 1875 tl_7), (k5, eI (ty 0) 900 (fun _ => 0))])) := by
  refine CC_of (by decide) ?_
  intro p e s m below meth c A C hP hD hS
  obtain ⟨⟨hx, hb, hml, hown, hts⟩, hr, hlocks, hnm, hK, hE, hA, hZ⟩ := id C
  refine startW [.ref h0, .ref sa_19] 2 (nle rfl) (lv := [(0, .ref h0), (1, .ref sa_19)]) rfl (fun ls hl => ?_)
  refine lv_aload_n hx hb d_X9_mustWord_0 rfl (lv_at hl 0 rfl) ?_
  refine lv_aload_n hx hb d_X9_mustWord_1 rfl (lv_at hl 1 rfl) ?_
  have ct_1 : Cut [(h0, eO 9 [.ref k0, .ref k1, .ref k2, .ref k3, .int 0, .ref k5, .int 0, .int 0, .int 0, .int 0, .int 0, .int 0, .int 2, .int 0, .int 0, .int (-1), .int 0, .int 0, .int 0, .ref k19, .ref k20, .ref k21, .ref k22, .ref k23, .int 0, .ref k25, .ref k26, .ref k27, .int 0, .int 0, .ref k30, .ref k31, .int 0, .ref k33, .int 0, .int 0, .ref k36, .ref k37, .ref k38, .ref k39]), (k1, eI (ty 0) 1875 tl_7), (k5, eI (ty 0) 900 (fun _ => 0))] [(h0, eO 9 [.ref k0, .ref k1, .ref k2, .ref k3, .int 0, .ref k5, .int 0, .int 0, .int 0, .int 0, .int 0, .int 0, .int 2, .int 0, .int 0, .int (-1), .int 0, .int 0, .int 0, .ref k19, .ref k20, .ref k21, .ref k22, .ref k23, .int 0, .ref k25, .ref k26, .ref k27, .int 0, .int 0, .ref k30, .ref k31, .int 0, .ref k33, .int 0, .int 0, .ref k36, .ref k37, .ref k38, .ref k39]), (k1, eI (ty 0) 1875 tl_7), (k5, eI (ty 0) 900 (fun _ => 0))] [] [0, 1, 2] [] := ⟨rfl, rfl, rfl, rfl, by decide⟩
  refine cont_I C hP hD hS ct_1 (run_V (As := [.ref sa_19]) (rest := []) C hP hD hS ct_1 (a_X9_took_6 l D ty h0 k1 k5 sa_19 k0 k2 k3 k19 k20 k21 k22 k23 k25 k26 k27 k30 k31 k33 k36 k37 k38 k39 tl_7) kV_PinchedBillModel_144 0 rfl rfl rfl rfl hl.1 rfl (nle rfl) d_X9_mustWord_2 ⟨by decide, by decide, by decide, by decide⟩) (fun r_3 w_4 H locs hw_2 hP hD hS => ?_)
  obtain ⟨rfl, rfl⟩ := hw_2
  have hP : va_P D vwCl [(h0, eO 9 [.ref k0, .ref k1, .ref k2, .ref k3, .int 0, .ref k5, .int 0, .int 0, .int 0, .int 0, .int 0, .int 0, .int 2, .int 0, .int 0, .int (-1), .int 0, .int 0, .int 0, .ref k19, .ref k20, .ref k21, .ref k22, .ref k23, .int 0, .ref k25, .ref k26, .ref k27, .int 0, .int 0, .ref k30, .ref k31, .int 0, .ref k33, .int 0, .int 0, .ref k36, .ref k37, .ref k38, .ref k39]), (k1, eI (ty 0) 1875 tl_7), (k5, eI (ty 0) 900 (fun _ => 0))] H := hP
  have hD : va_D A [(h0, eO 9 [.ref k0, .ref k1, .ref k2, .ref k3, .int 0, .ref k5, .int 0, .int 0, .int 0, .int 0, .int 0, .int 0, .int 2, .int 0, .int 0, .int (-1), .int 0, .int 0, .int 0, .ref k19, .ref k20, .ref k21, .ref k22, .ref k23, .int 0, .ref k25, .ref k26, .ref k27, .int 0, .int 0, .ref k30, .ref k31, .int 0, .ref k33, .int 0, .int 0, .ref k36, .ref k37, .ref k38, .ref k39]), (k1, eI (ty 0) 1875 tl_7), (k5, eI (ty 0) 900 (fun _ => 0))] := hD
  refine b_if_neF C 13 d_X9_mustWord_5 (by decide) (by decide) ?_
  refine lv_aload_n hx hb d_X9_mustWord_8 rfl (lv_at hl 0 rfl) ?_
  refine lv_iconst (v := 2) hx hb d_X9_mustWord_9 (by decide) ?_
  have ct_5 : Cut [(h0, eO 9 [.ref k0, .ref k1, .ref k2, .ref k3, .int 0, .ref k5, .int 0, .int 0, .int 0, .int 0, .int 0, .int 0, .int 2, .int 0, .int 0, .int (-1), .int 0, .int 0, .int 0, .ref k19, .ref k20, .ref k21, .ref k22, .ref k23, .int 0, .ref k25, .ref k26, .ref k27, .int 0, .int 0, .ref k30, .ref k31, .int 0, .ref k33, .int 0, .int 0, .ref k36, .ref k37, .ref k38, .ref k39]), (k1, eI (ty 0) 1875 tl_7), (k5, eI (ty 0) 900 (fun _ => 0))] [(h0, eO 9 [.ref k0, .ref k1, .ref k2, .ref k3, .int 0, .ref k5, .int 0, .int 0, .int 0, .int 0, .int 0, .int 0, .int 2, .int 0, .int 0, .int (-1), .int 0, .int 0, .int 0, .ref k19, .ref k20, .ref k21, .ref k22, .ref k23, .int 0, .ref k25, .ref k26, .ref k27, .int 0, .int 0, .ref k30, .ref k31, .int 0, .ref k33, .int 0, .int 0, .ref k36, .ref k37, .ref k38, .ref k39]), (k1, eI (ty 0) 1875 tl_7), (k5, eI (ty 0) 900 (fun _ => 0))] [] [0, 1, 2] [] := ⟨rfl, rfl, rfl, rfl, by decide⟩
  refine cont_V C hP hD hS ct_5 (run_V (As := [.int 2]) (rest := []) C hP hD hS ct_5 (a_X9_blames_8 l D ty h0 k1 k5 k0 k2 k3 k19 k20 k21 k22 k23 k25 k26 k27 k30 k31 k33 k36 k37 k38 k39 tl_7) kV_PinchedBillModel_136 0 rfl rfl rfl rfl hl.1 rfl (nle rfl) d_X9_mustWord_10 ⟨by decide, by decide, by decide, by decide⟩) (fun w_8 H locs hw_6 hP hD hS => ?_)
  subst hw_6
  have hP : va_P D vwCl [(h0, eO 9 [.ref k0, .ref k1, .ref k2, .ref k3, .int 0, .ref k5, .int 0, .int 0, .int 0, .int 0, .int 0, .int 0, .int 2, .int 0, .int 0, .int (-1), .int 0, .int 0, .int 0, .ref k19, .ref k20, .ref k21, .ref k22, .ref k23, .int 0, .ref k25, .ref k26, .ref k27, .int 0, .int 0, .ref k30, .ref k31, .int 0, .ref k33, .int 0, .int 0, .ref k36, .ref k37, .ref k38, .ref k39]), (k1, eI (ty 0) 1875 tl_7), (k5, eI (ty 0) 900 (fun _ => 0))] H := hP
  have hD : va_D A [(h0, eO 9 [.ref k0, .ref k1, .ref k2, .ref k3, .int 0, .ref k5, .int 0, .int 0, .int 0, .int 0, .int 0, .int 0, .int 2, .int 0, .int 0, .int (-1), .int 0, .int 0, .int 0, .ref k19, .ref k20, .ref k21, .ref k22, .ref k23, .int 0, .ref k25, .ref k26, .ref k27, .int 0, .int 0, .ref k30, .ref k31, .int 0, .ref k33, .int 0, .int 0, .ref k36, .ref k37, .ref k38, .ref k39]), (k1, eI (ty 0) 1875 tl_7), (k5, eI (ty 0) 900 (fun _ => 0))] := hD
  exact ret_V (w := [(h0, eO 9 [.ref k0, .ref k1, .ref k2, .ref k3, .int 0, .ref k5, .int 0, .int 0, .int 0, .int 0, .int 0, .int 0, .int 2, .int 0, .int 0, .int (-1), .int 0, .int 0, .int 0, .ref k19, .ref k20, .ref k21, .ref k22, .ref k23, .int 0, .ref k25, .ref k26, .ref k27, .int 0, .int 0, .ref k30, .ref k31, .int 0, .ref k33, .int 0, .int 0, .ref k36, .ref k37, .ref k38, .ref k39]), (k1, eI (ty 0) 1875 tl_7), (k5, eI (ty 0) 900 (fun _ => 0))]) C hP hD hS [0, 1, 2] rfl rfl rfl (by decide) (by decide) d_X9_mustWord_13
set_option maxHeartbeats 4000000 in
set_option maxRecDepth 100000 in
theorem a_X9_number_10 (l : Launch) (D : va_G) (ty : Nat → ClassId) (h0 : Nat) (k1 : Nat) (k5 : Nat) (k0 : Nat) (k2 : Nat) (k3 : Nat) (k19 : Nat) (k20 : Nat) (k21 : Nat) (k22 : Nat) (k23 : Nat) (k25 : Nat) (k26 : Nat) (k27 : Nat) (k30 : Nat) (k31 : Nat) (k33 : Nat) (k36 : Nat) (k37 : Nat) (k38 : Nat) (k39 : Nat) (tl_7 : Nat → Int32) : CC l D ty ⟨"PinchedBillModel", "number", "(II)I"⟩ prog_11_method_18_code 4 (some .int) 1 21 0 0 [.ref h0, .int 1, .int 3] [(h0, eO 9 [.ref k0, .ref k1, .ref k2, .ref k3, .int 0, .ref k5, .int 0, .int 0, .int 0, .int 0, .int 0, .int 0, .int 2, .int 0, .int 0, .int (-1), .int 0, .int 0, .int 0, .ref k19, .ref k20, .ref k21, .ref k22, .ref k23, .int 0, .ref k25, .ref k26, .ref k27, .int 0, .int 0, .ref k30, .ref k31, .int 0, .ref k33, .int 0, .int 0, .ref k36, .ref k37, .ref k38, .ref k39]), (k1, eI (ty 0) 1875 tl_7), (k5, eI (ty 0) 900 (fun _ => 0))] (QI D ty (fun (r : Int32) (w : va_W) => 1 = r ∧ w = [(h0, eO 9 [.ref k0, .ref k1, .ref k2, .ref k3, .int 0, .ref k5, .int 0, .int 0, .int 0, .int 0, .int 0, .int 0, .int 2, .int 0, .int 0, .int (-1), .int 0, .int 0, .int 0, .ref k19, .ref k20, .ref k21, .ref k22, .ref k23, .int 0, .ref k25, .ref k26, .ref k27, .int 0, .int 0, .ref k30, .ref k31, .int 0, .ref k33, .int 0, .int 0, .ref k36, .ref k37, .ref k38, .ref k39]), (k1, eI (ty 0) 1875 tl_7), (k5, eI (ty 0) 900 (fun _ => 0))])) := by
  refine CC_of (by decide) ?_
  intro p e s m below meth c A C hP hD hS
  obtain ⟨⟨hx, hb, hml, hown, hts⟩, hr, hlocks, hnm, hK, hE, hA, hZ⟩ := id C
  refine startW [.ref h0, .int 1, .int 3] 4 (nle rfl) (lv := [(0, .ref h0), (1, .int 1), (2, .int 3)]) rfl (fun ls hl => ?_)
  refine lv_aload_n hx hb d_X9_number_0 rfl (lv_at hl 0 rfl) ?_
  refine r_get (v := .int 0) C hP 0 rfl rfl lay_X9 10 (by decide) k_1555 rfl d_X9_number_1 ?_
  refine lv_iconst (v := 2) hx hb d_X9_number_4 (by decide) ?_
  refine b_icmp_eqF C 16 d_X9_number_5 (by decide) (by decide) ?_
  refine lv_aload_n hx hb d_X9_number_8 rfl (lv_at hl 0 rfl) ?_
  refine lv_iconst (v := 2) hx hb d_X9_number_9 (by decide) ?_
  have ct_1 : Cut [(h0, eO 9 [.ref k0, .ref k1, .ref k2, .ref k3, .int 0, .ref k5, .int 0, .int 0, .int 0, .int 0, .int 0, .int 0, .int 2, .int 0, .int 0, .int (-1), .int 0, .int 0, .int 0, .ref k19, .ref k20, .ref k21, .ref k22, .ref k23, .int 0, .ref k25, .ref k26, .ref k27, .int 0, .int 0, .ref k30, .ref k31, .int 0, .ref k33, .int 0, .int 0, .ref k36, .ref k37, .ref k38, .ref k39]), (k1, eI (ty 0) 1875 tl_7), (k5, eI (ty 0) 900 (fun _ => 0))] [(h0, eO 9 [.ref k0, .ref k1, .ref k2, .ref k3, .int 0, .ref k5, .int 0, .int 0, .int 0, .int 0, .int 0, .int 0, .int 2, .int 0, .int 0, .int (-1), .int 0, .int 0, .int 0, .ref k19, .ref k20, .ref k21, .ref k22, .ref k23, .int 0, .ref k25, .ref k26, .ref k27, .int 0, .int 0, .ref k30, .ref k31, .int 0, .ref k33, .int 0, .int 0, .ref k36, .ref k37, .ref k38, .ref k39]), (k1, eI (ty 0) 1875 tl_7), (k5, eI (ty 0) 900 (fun _ => 0))] [] [0, 1, 2] [] := ⟨rfl, rfl, rfl, rfl, by decide⟩
  refine cont_V C hP hD hS ct_1 (run_V (As := [.int 2]) (rest := []) C hP hD hS ct_1 (a_X9_blames_8 l D ty h0 k1 k5 k0 k2 k3 k19 k20 k21 k22 k23 k25 k26 k27 k30 k31 k33 k36 k37 k38 k39 tl_7) kV_PinchedBillModel_136 0 rfl rfl rfl rfl hl.1 rfl (nle rfl) d_X9_number_10 ⟨by decide, by decide, by decide, by decide⟩) (fun w_4 H locs hw_2 hP hD hS => ?_)
  subst hw_2
  have hP : va_P D vwCl [(h0, eO 9 [.ref k0, .ref k1, .ref k2, .ref k3, .int 0, .ref k5, .int 0, .int 0, .int 0, .int 0, .int 0, .int 0, .int 2, .int 0, .int 0, .int (-1), .int 0, .int 0, .int 0, .ref k19, .ref k20, .ref k21, .ref k22, .ref k23, .int 0, .ref k25, .ref k26, .ref k27, .int 0, .int 0, .ref k30, .ref k31, .int 0, .ref k33, .int 0, .int 0, .ref k36, .ref k37, .ref k38, .ref k39]), (k1, eI (ty 0) 1875 tl_7), (k5, eI (ty 0) 900 (fun _ => 0))] H := hP
  have hD : va_D A [(h0, eO 9 [.ref k0, .ref k1, .ref k2, .ref k3, .int 0, .ref k5, .int 0, .int 0, .int 0, .int 0, .int 0, .int 0, .int 2, .int 0, .int 0, .int (-1), .int 0, .int 0, .int 0, .ref k19, .ref k20, .ref k21, .ref k22, .ref k23, .int 0, .ref k25, .ref k26, .ref k27, .int 0, .int 0, .ref k30, .ref k31, .int 0, .ref k33, .int 0, .int 0, .ref k36, .ref k37, .ref k38, .ref k39]), (k1, eI (ty 0) 1875 tl_7), (k5, eI (ty 0) 900 (fun _ => 0))] := hD
  refine lv_goto (tgt := 36) hx hb d_X9_number_13 (by decide) ?_
  refine lv_aload_n hx hb d_X9_number_36 rfl (lv_at hl 0 rfl) ?_
  refine r_get (v := .int 0) C hP 0 rfl rfl lay_X9 11 (by decide) k_1556 rfl d_X9_number_37 ?_
  refine lv_istore_n (lv' := [(3, .int 0), (0, .ref h0), (1, .int 1), (2, .int 3)]) hx hb d_X9_number_40 rfl hl (by decide) rfl (fun ls hl => ?_)
  refine lv_aload_n hx hb d_X9_number_41 rfl (lv_at hl 1 rfl) ?_
  refine r_get (v := .int 2) C hP 0 rfl rfl lay_X9 12 (by decide) k_1557 rfl d_X9_number_42 ?_
  refine b_if_neT C 52 d_X9_number_45 (by decide) (by decide) ?_
  refine lv_aload_n hx hb d_X9_number_52 rfl (lv_at hl 1 rfl) ?_
  refine r_get (v := .int 2) C hP 0 rfl rfl lay_X9 12 (by decide) k_1557 rfl d_X9_number_53 ?_
  refine b_if_neT C 63 d_X9_number_56 (by decide) (by decide) ?_
  refine lv_iload_n hx hb d_X9_number_63 rfl (lv_at hl 2 rfl) ?_
  exact ret_I (w := [(h0, eO 9 [.ref k0, .ref k1, .ref k2, .ref k3, .int 0, .ref k5, .int 0, .int 0, .int 0, .int 0, .int 0, .int 0, .int 2, .int 0, .int 0, .int (-1), .int 0, .int 0, .int 0, .ref k19, .ref k20, .ref k21, .ref k22, .ref k23, .int 0, .ref k25, .ref k26, .ref k27, .int 0, .int 0, .ref k30, .ref k31, .int 0, .ref k33, .int 0, .int 0, .ref k36, .ref k37, .ref k38, .ref k39]), (k1, eI (ty 0) 1875 tl_7), (k5, eI (ty 0) 900 (fun _ => 0))]) C hP hD hS [0, 1, 2] rfl rfl ⟨rfl, rfl⟩ (by decide) (by decide) d_X9_number_64
set_option maxHeartbeats 4000000 in
set_option maxRecDepth 100000 in
theorem a_X9_mustSign_11 (l : Launch) (D : va_G) (ty : Nat → ClassId) (h0 : Nat) (k1 : Nat) (k5 : Nat) (k0 : Nat) (k2 : Nat) (k3 : Nat) (k19 : Nat) (k20 : Nat) (k21 : Nat) (k22 : Nat) (k23 : Nat) (k25 : Nat) (k26 : Nat) (k27 : Nat) (k30 : Nat) (k31 : Nat) (k33 : Nat) (k36 : Nat) (k37 : Nat) (k38 : Nat) (k39 : Nat) (tl_29 : Nat → Int32) : CC l D ty ⟨"PinchedBillModel", "mustSign", "(I)V"⟩ prog_11_method_17_code 2 none 1 21 0 0 [.ref h0, .int 59] [(h0, eO 9 [.ref k0, .ref k1, .ref k2, .ref k3, .int 0, .ref k5, .int 0, .int 0, .int 0, .int 0, .int 0, .int 0, .int 2, .int 0, .int 0, .int (-1), .int 0, .int 0, .int 0, .ref k19, .ref k20, .ref k21, .ref k22, .ref k23, .int 0, .ref k25, .ref k26, .ref k27, .int 0, .int 0, .ref k30, .ref k31, .int 0, .ref k33, .int 0, .int 0, .ref k36, .ref k37, .ref k38, .ref k39]), (k1, eI (ty 0) 1875 tl_29), (k5, eI (ty 0) 900 (fun _ => 0))] (QV D ty (fun (w : va_W) => w = [(h0, eO 9 [.ref k0, .ref k1, .ref k2, .ref k3, .int 0, .ref k5, .int 0, .int 0, .int 0, .int 0, .int 0, .int 0, .int 2, .int 0, .int 0, .int (-1), .int 0, .int 0, .int 0, .ref k19, .ref k20, .ref k21, .ref k22, .ref k23, .int 0, .ref k25, .ref k26, .ref k27, .int 0, .int 0, .ref k30, .ref k31, .int 0, .ref k33, .int 0, .int 0, .ref k36, .ref k37, .ref k38, .ref k39]), (k1, eI (ty 0) 1875 tl_29), (k5, eI (ty 0) 900 (fun _ => 0))])) := by
  refine CC_of (by decide) ?_
  intro p e s m below meth c A C hP hD hS
  obtain ⟨⟨hx, hb, hml, hown, hts⟩, hr, hlocks, hnm, hK, hE, hA, hZ⟩ := id C
  refine startW [.ref h0, .int 59] 2 (nle rfl) (lv := [(0, .ref h0), (1, .int 59)]) rfl (fun ls hl => ?_)
  refine lv_aload_n hx hb d_X9_mustSign_0 rfl (lv_at hl 0 rfl) ?_
  refine r_get (v := .int 0) C hP 0 rfl rfl lay_X9 10 (by decide) k_1555 rfl d_X9_mustSign_1 ?_
  refine lv_iload_n hx hb d_X9_mustSign_4 rfl (lv_at hl 1 rfl) ?_
  refine b_icmp_eqF C 13 d_X9_mustSign_5 (by decide) (by decide) ?_
  refine lv_aload_n hx hb d_X9_mustSign_8 rfl (lv_at hl 0 rfl) ?_
  refine lv_iconst (v := 2) hx hb d_X9_mustSign_9 (by decide) ?_
  have ct_1 : Cut [(h0, eO 9 [.ref k0, .ref k1, .ref k2, .ref k3, .int 0, .ref k5, .int 0, .int 0, .int 0, .int 0, .int 0, .int 0, .int 2, .int 0, .int 0, .int (-1), .int 0, .int 0, .int 0, .ref k19, .ref k20, .ref k21, .ref k22, .ref k23, .int 0, .ref k25, .ref k26, .ref k27, .int 0, .int 0, .ref k30, .ref k31, .int 0, .ref k33, .int 0, .int 0, .ref k36, .ref k37, .ref k38, .ref k39]), (k1, eI (ty 0) 1875 tl_29), (k5, eI (ty 0) 900 (fun _ => 0))] [(h0, eO 9 [.ref k0, .ref k1, .ref k2, .ref k3, .int 0, .ref k5, .int 0, .int 0, .int 0, .int 0, .int 0, .int 0, .int 2, .int 0, .int 0, .int (-1), .int 0, .int 0, .int 0, .ref k19, .ref k20, .ref k21, .ref k22, .ref k23, .int 0, .ref k25, .ref k26, .ref k27, .int 0, .int 0, .ref k30, .ref k31, .int 0, .ref k33, .int 0, .int 0, .ref k36, .ref k37, .ref k38, .ref k39]), (k1, eI (ty 0) 1875 tl_29), (k5, eI (ty 0) 900 (fun _ => 0))] [] [0, 1, 2] [] := ⟨rfl, rfl, rfl, rfl, by decide⟩
  refine cont_V C hP hD hS ct_1 (run_V (As := [.int 2]) (rest := []) C hP hD hS ct_1 (a_X9_blames_8 l D ty h0 k1 k5 k0 k2 k3 k19 k20 k21 k22 k23 k25 k26 k27 k30 k31 k33 k36 k37 k38 k39 tl_29) kV_PinchedBillModel_136 0 rfl rfl rfl rfl hl.1 rfl (nle rfl) d_X9_mustSign_10 ⟨by decide, by decide, by decide, by decide⟩) (fun w_4 H locs hw_2 hP hD hS => ?_)
  subst hw_2
  have hP : va_P D vwCl [(h0, eO 9 [.ref k0, .ref k1, .ref k2, .ref k3, .int 0, .ref k5, .int 0, .int 0, .int 0, .int 0, .int 0, .int 0, .int 2, .int 0, .int 0, .int (-1), .int 0, .int 0, .int 0, .ref k19, .ref k20, .ref k21, .ref k22, .ref k23, .int 0, .ref k25, .ref k26, .ref k27, .int 0, .int 0, .ref k30, .ref k31, .int 0, .ref k33, .int 0, .int 0, .ref k36, .ref k37, .ref k38, .ref k39]), (k1, eI (ty 0) 1875 tl_29), (k5, eI (ty 0) 900 (fun _ => 0))] H := hP
  have hD : va_D A [(h0, eO 9 [.ref k0, .ref k1, .ref k2, .ref k3, .int 0, .ref k5, .int 0, .int 0, .int 0, .int 0, .int 0, .int 0, .int 2, .int 0, .int 0, .int (-1), .int 0, .int 0, .int 0, .ref k19, .ref k20, .ref k21, .ref k22, .ref k23, .int 0, .ref k25, .ref k26, .ref k27, .int 0, .int 0, .ref k30, .ref k31, .int 0, .ref k33, .int 0, .int 0, .ref k36, .ref k37, .ref k38, .ref k39]), (k1, eI (ty 0) 1875 tl_29), (k5, eI (ty 0) 900 (fun _ => 0))] := hD
  refine lv_aload_n hx hb d_X9_mustSign_13 rfl (lv_at hl 0 rfl) ?_
  refine r_get (v := .int 2) C hP 0 rfl rfl lay_X9 12 (by decide) k_1557 rfl d_X9_mustSign_14 ?_
  refine b_if_neT C 24 d_X9_mustSign_17 (by decide) (by decide) ?_
  exact ret_V (w := [(h0, eO 9 [.ref k0, .ref k1, .ref k2, .ref k3, .int 0, .ref k5, .int 0, .int 0, .int 0, .int 0, .int 0, .int 0, .int 2, .int 0, .int 0, .int (-1), .int 0, .int 0, .int 0, .ref k19, .ref k20, .ref k21, .ref k22, .ref k23, .int 0, .ref k25, .ref k26, .ref k27, .int 0, .int 0, .ref k30, .ref k31, .int 0, .ref k33, .int 0, .int 0, .ref k36, .ref k37, .ref k38, .ref k39]), (k1, eI (ty 0) 1875 tl_29), (k5, eI (ty 0) 900 (fun _ => 0))]) C hP hD hS [0, 1, 2] rfl rfl rfl (by decide) (by decide) d_X9_mustSign_24
set_option maxHeartbeats 4000000 in
set_option maxRecDepth 100000 in
theorem a_X9_readStop_11 (l : Launch) (D : va_G) (ty : Nat → ClassId) (h0 : Nat) (k1 : Nat) (k5 : Nat) (k0 : Nat) (k2 : Nat) (k3 : Nat) (k19 : Nat) (k20 : Nat) (k21 : Nat) (k22 : Nat) (k23 : Nat) (k25 : Nat) (k26 : Nat) (k27 : Nat) (k30 : Nat) (k31 : Nat) (k33 : Nat) (k36 : Nat) (k37 : Nat) (k38 : Nat) (k39 : Nat) (tl_29 : Nat → Int32) : CC l D ty ⟨"PinchedBillModel", "readStop", "()V"⟩ prog_11_method_33_code 1 none 2 42 0 0 [.ref h0] [(h0, eO 9 [.ref k0, .ref k1, .ref k2, .ref k3, .int 0, .ref k5, .int 0, .int 0, .int 0, .int 0, .int 0, .int 0, .int 2, .int 0, .int 0, .int (-1), .int 0, .int 0, .int 0, .ref k19, .ref k20, .ref k21, .ref k22, .ref k23, .int 0, .ref k25, .ref k26, .ref k27, .int 0, .int 0, .ref k30, .ref k31, .int 0, .ref k33, .int 0, .int 0, .ref k36, .ref k37, .ref k38, .ref k39]), (k1, eI (ty 0) 1875 tl_29), (k5, eI (ty 0) 900 (fun _ => 0))] (QV D ty (fun (w : va_W) => w = [(h0, eO 9 [.ref k0, .ref k1, .ref k2, .ref k3, .int 0, .ref k5, .int 0, .int 0, .int 0, .int 0, .int 0, .int 0, .int 2, .int 0, .int 0, .int (-1), .int 0, .int 0, .int 0, .ref k19, .ref k20, .ref k21, .ref k22, .ref k23, .int 0, .ref k25, .ref k26, .ref k27, .int 0, .int 0, .ref k30, .ref k31, .int 0, .ref k33, .int 0, .int 0, .ref k36, .ref k37, .ref k38, .ref k39]), (k1, eI (ty 0) 1875 tl_29), (k5, eI (ty 0) 900 (fun _ => 0))])) := by
  refine CC_of (by decide) ?_
  intro p e s m below meth c A C hP hD hS
  obtain ⟨⟨hx, hb, hml, hown, hts⟩, hr, hlocks, hnm, hK, hE, hA, hZ⟩ := id C
  refine startW [.ref h0] 1 (nle rfl) (lv := [(0, .ref h0)]) rfl (fun ls hl => ?_)
  refine lv_aload_n hx hb d_X9_readStop_0 rfl (lv_at hl 0 rfl) ?_
  refine lv_bipush (v := 59) hx hb d_X9_readStop_1 (by decide) ?_
  have ct_1 : Cut [(h0, eO 9 [.ref k0, .ref k1, .ref k2, .ref k3, .int 0, .ref k5, .int 0, .int 0, .int 0, .int 0, .int 0, .int 0, .int 2, .int 0, .int 0, .int (-1), .int 0, .int 0, .int 0, .ref k19, .ref k20, .ref k21, .ref k22, .ref k23, .int 0, .ref k25, .ref k26, .ref k27, .int 0, .int 0, .ref k30, .ref k31, .int 0, .ref k33, .int 0, .int 0, .ref k36, .ref k37, .ref k38, .ref k39]), (k1, eI (ty 0) 1875 tl_29), (k5, eI (ty 0) 900 (fun _ => 0))] [(h0, eO 9 [.ref k0, .ref k1, .ref k2, .ref k3, .int 0, .ref k5, .int 0, .int 0, .int 0, .int 0, .int 0, .int 0, .int 2, .int 0, .int 0, .int (-1), .int 0, .int 0, .int 0, .ref k19, .ref k20, .ref k21, .ref k22, .ref k23, .int 0, .ref k25, .ref k26, .ref k27, .int 0, .int 0, .ref k30, .ref k31, .int 0, .ref k33, .int 0, .int 0, .ref k36, .ref k37, .ref k38, .ref k39]), (k1, eI (ty 0) 1875 tl_29), (k5, eI (ty 0) 900 (fun _ => 0))] [] [0, 1, 2] [] := ⟨rfl, rfl, rfl, rfl, by decide⟩
  refine cont_V C hP hD hS ct_1 (run_V (As := [.int 59]) (rest := []) C hP hD hS ct_1 (a_X9_mustSign_11 l D ty h0 k1 k5 k0 k2 k3 k19 k20 k21 k22 k23 k25 k26 k27 k30 k31 k33 k36 k37 k38 k39 tl_29) kV_PinchedBillModel_153 0 rfl rfl rfl rfl hl.1 rfl (nle rfl) d_X9_readStop_3 ⟨by decide, by decide, by decide, by decide⟩) (fun w_4 H locs hw_2 hP hD hS => ?_)
  subst hw_2
  have hP : va_P D vwCl [(h0, eO 9 [.ref k0, .ref k1, .ref k2, .ref k3, .int 0, .ref k5, .int 0, .int 0, .int 0, .int 0, .int 0, .int 0, .int 2, .int 0, .int 0, .int (-1), .int 0, .int 0, .int 0, .ref k19, .ref k20, .ref k21, .ref k22, .ref k23, .int 0, .ref k25, .ref k26, .ref k27, .int 0, .int 0, .ref k30, .ref k31, .int 0, .ref k33, .int 0, .int 0, .ref k36, .ref k37, .ref k38, .ref k39]), (k1, eI (ty 0) 1875 tl_29), (k5, eI (ty 0) 900 (fun _ => 0))] H := hP
  have hD : va_D A [(h0, eO 9 [.ref k0, .ref k1, .ref k2, .ref k3, .int 0, .ref k5, .int 0, .int 0, .int 0, .int 0, .int 0, .int 0, .int 2, .int 0, .int 0, .int (-1), .int 0, .int 0, .int 0, .ref k19, .ref k20, .ref k21, .ref k22, .ref k23, .int 0, .ref k25, .ref k26, .ref k27, .int 0, .int 0, .ref k30, .ref k31, .int 0, .ref k33, .int 0, .int 0, .ref k36, .ref k37, .ref k38, .ref k39]), (k1, eI (ty 0) 1875 tl_29), (k5, eI (ty 0) 900 (fun _ => 0))] := hD
  refine lv_aload_n hx hb d_X9_readStop_6 rfl (lv_at hl 0 rfl) ?_
  refine r_get (v := .int 2) C hP 0 rfl rfl lay_X9 12 (by decide) k_1557 rfl d_X9_readStop_7 ?_
  refine b_if_neT C 23 d_X9_readStop_10 (by decide) (by decide) ?_
  exact ret_V (w := [(h0, eO 9 [.ref k0, .ref k1, .ref k2, .ref k3, .int 0, .ref k5, .int 0, .int 0, .int 0, .int 0, .int 0, .int 0, .int 2, .int 0, .int 0, .int (-1), .int 0, .int 0, .int 0, .ref k19, .ref k20, .ref k21, .ref k22, .ref k23, .int 0, .ref k25, .ref k26, .ref k27, .int 0, .int 0, .ref k30, .ref k31, .int 0, .ref k33, .int 0, .int 0, .ref k36, .ref k37, .ref k38, .ref k39]), (k1, eI (ty 0) 1875 tl_29), (k5, eI (ty 0) 900 (fun _ => 0))]) C hP hD hS [0, 1, 2] rfl rfl rfl (by decide) (by decide) d_X9_readStop_23
set_option maxHeartbeats 4000000 in
set_option maxRecDepth 100000 in
theorem m_houseT (l : Launch) (D : va_G) (ty : Nat → ClassId) (h0 : Nat) (k0 : Nat) (k1 : Nat) (k2 : Nat) (k3 : Nat) (k5 : Nat) (k19 : Nat) (k20 : Nat) (k21 : Nat) (k22 : Nat) (k23 : Nat) (k25 : Nat) (k26 : Nat) (k27 : Nat) (k30 : Nat) (k31 : Nat) (k33 : Nat) (k36 : Nat) (k37 : Nat) (k38 : Nat) (k39 : Nat) : CC l D ty ⟨"PinchedBillModel", "house", "(I)I"⟩ prog_11_method_35_code 3 (some .int) 3 66 0 0 [.ref h0, .int 0] [(h0, eO 9 [.ref k0, .ref k1, .ref k2, .ref k3, .int 0, .ref k5, .int 0, .int 0, .int 0, .int 0, .int 0, .int 0, .int 0, .int 0, .int 0, .int (-1), .int 0, .int 0, .int 0, .ref k19, .ref k20, .ref k21, .ref k22, .ref k23, .int 0, .ref k25, .ref k26, .ref k27, .int 0, .int 0, .ref k30, .ref k31, .int 0, .ref k33, .int 0, .int 0, .ref k36, .ref k37, .ref k38, .ref k39]), (k1, eI (ty 0) 1875 (fun _ => 0)), (k5, eI (ty 0) 900 (fun _ => 0))] (QI D ty (fun (r : Int32) (w : va_W) => ∃ (w6 : Value) (w7 : Value) (w8 : Value) (w9 : Value) (w10 : Value) (w11 : Value) (w12 : Value) (w13 : Value) (w14 : Value) (w15 : Value) (w16 : Value) (w17 : Value) (w18 : Value) (w24 : Value) (w28 : Value) (w29 : Value) (w32 : Value) (w34 : Value) (w35 : Value), (-12) = r ∧ w = [(h0, eO 9 [.ref k0, .ref k1, .ref k2, .ref k3, .int 0, .ref k5, w6, w7, w8, w9, w10, w11, w12, w13, w14, w15, w16, w17, w18, .ref k19, .ref k20, .ref k21, .ref k22, .ref k23, w24, .ref k25, .ref k26, .ref k27, w28, w29, .ref k30, .ref k31, w32, .ref k33, w34, w35, .ref k36, .ref k37, .ref k38, .ref k39])])) := by
  refine CC_of (by decide) ?_
  intro p e s m below meth c A C hP hD hS
  obtain ⟨⟨hx, hb, hml, hown, hts⟩, hr, hlocks, hnm, hK, hE, hA, hZ⟩ := id C
  refine startW [.ref h0, .int 0] 3 (nle rfl) (lv := [(0, .ref h0), (1, .int 0)]) rfl (fun ls hl => ?_)
  refine lv_aload_n hx hb d_X9_house_0 rfl (lv_at hl 0 rfl) ?_
  refine lv_iconst (v := 0) hx hb d_X9_house_1 (by decide) ?_
  refine r_put (w := [(h0, eO 9 [.ref k0, .ref k1, .ref k2, .ref k3, .int 0, .ref k5, .int 0, .int 0, .int 0, .int 0, .int 0, .int 0, .int 0, .int 0, .int 0, .int (-1), .int 0, .int 0, .int 0, .ref k19, .ref k20, .ref k21, .ref k22, .ref k23, .int 0, .ref k25, .ref k26, .ref k27, .int 0, .int 0, .ref k30, .ref k31, .int 0, .ref k33, .int 0, .int 0, .ref k36, .ref k37, .ref k38, .ref k39]), (k1, eI (ty 0) 1875 (fun _ => 0)), (k5, eI (ty 0) 900 (fun _ => 0))]) C hP hD hS 0 rfl rfl lay_X9 tok_X9 nmo_X9 4 (by decide) k_1549 rfl rfl rfl (nle rfl) rfl d_X9_house_2 (fun H locs hP hD hS => ?_)
  refine lv_iload_n hx hb d_X9_house_5 rfl (lv_at hl 1 rfl) ?_
  refine lv_i2l (v := 0) hx hb d_X9_house_6 (by decide) ?_
  refine lv_lconst (v := 0) hx hb d_X9_house_7 (by decide) ?_
  refine lv_aload_n hx hb d_X9_house_8 rfl (lv_at hl 0 rfl) ?_
  refine r_get (v := .int 0) C hP 0 rfl rfl lay_X9 6 (by decide) k_1551 rfl d_X9_house_9 ?_
  refine lv_i2l (v := 0) hx hb d_X9_house_12 (by decide) ?_
  have ct_1 : Cut [(h0, eO 9 [.ref k0, .ref k1, .ref k2, .ref k3, .int 0, .ref k5, .int 0, .int 0, .int 0, .int 0, .int 0, .int 0, .int 0, .int 0, .int 0, .int (-1), .int 0, .int 0, .int 0, .ref k19, .ref k20, .ref k21, .ref k22, .ref k23, .int 0, .ref k25, .ref k26, .ref k27, .int 0, .int 0, .ref k30, .ref k31, .int 0, .ref k33, .int 0, .int 0, .ref k36, .ref k37, .ref k38, .ref k39]), (k1, eI (ty 0) 1875 (fun _ => 0)), (k5, eI (ty 0) 900 (fun _ => 0))] [] [(h0, eO 9 [.ref k0, .ref k1, .ref k2, .ref k3, .int 0, .ref k5, .int 0, .int 0, .int 0, .int 0, .int 0, .int 0, .int 0, .int 0, .int 0, .int (-1), .int 0, .int 0, .int 0, .ref k19, .ref k20, .ref k21, .ref k22, .ref k23, .int 0, .ref k25, .ref k26, .ref k27, .int 0, .int 0, .ref k30, .ref k31, .int 0, .ref k33, .int 0, .int 0, .ref k36, .ref k37, .ref k38, .ref k39]), (k1, eI (ty 0) 1875 (fun _ => 0)), (k5, eI (ty 0) 900 (fun _ => 0))] [] [0, 1, 2] := ⟨rfl, rfl, rfl, rfl, by decide⟩
  refine cont_I C hP hD hS ct_1 (run_S (As := [.long 0, .long 0, .long 0]) (rest := []) C hP hD hS ct_1 (c_mwi l D ty 0 0 0) kS_PinchedBillModel_140 rfl hl.1 rfl (nle rfl) d_X9_house_13 ⟨by decide, by decide, by decide, by decide⟩) (fun r_3 w_4 H locs hw_2 hP hD hS => ?_)
  obtain ⟨rfl, rfl⟩ := hw_2
  have hP : va_P D vwCl [(h0, eO 9 [.ref k0, .ref k1, .ref k2, .ref k3, .int 0, .ref k5, .int 0, .int 0, .int 0, .int 0, .int 0, .int 0, .int 0, .int 0, .int 0, .int (-1), .int 0, .int 0, .int 0, .ref k19, .ref k20, .ref k21, .ref k22, .ref k23, .int 0, .ref k25, .ref k26, .ref k27, .int 0, .int 0, .ref k30, .ref k31, .int 0, .ref k33, .int 0, .int 0, .ref k36, .ref k37, .ref k38, .ref k39]), (k1, eI (ty 0) 1875 (fun _ => 0)), (k5, eI (ty 0) 900 (fun _ => 0))] H := hP
  have hD : va_D A [(h0, eO 9 [.ref k0, .ref k1, .ref k2, .ref k3, .int 0, .ref k5, .int 0, .int 0, .int 0, .int 0, .int 0, .int 0, .int 0, .int 0, .int 0, .int (-1), .int 0, .int 0, .int 0, .ref k19, .ref k20, .ref k21, .ref k22, .ref k23, .int 0, .ref k25, .ref k26, .ref k27, .int 0, .int 0, .ref k30, .ref k31, .int 0, .ref k33, .int 0, .int 0, .ref k36, .ref k37, .ref k38, .ref k39]), (k1, eI (ty 0) 1875 (fun _ => 0)), (k5, eI (ty 0) 900 (fun _ => 0))] := hD
  refine topeq (z := 1) (wiN_1 (0) 0 0 rfl rfl rfl (by omega) (by omega) (by omega)) ?_
  refine b_if_neT C 25 d_X9_house_16 (by decide) (by decide) ?_
  refine lv_aload_n hx hb d_X9_house_25 rfl (lv_at hl 0 rfl) ?_
  refine lv_iload_n hx hb d_X9_house_26 rfl (lv_at hl 1 rfl) ?_
  refine r_put (w := [(h0, eO 9 [.ref k0, .ref k1, .ref k2, .ref k3, .int 0, .ref k5, .int 0, .int 0, .int 0, .int 0, .int 0, .int 0, .int 0, .int 0, .int 0, .int (-1), .int 0, .int 0, .int 0, .ref k19, .ref k20, .ref k21, .ref k22, .ref k23, .int 0, .ref k25, .ref k26, .ref k27, .int 0, .int 0, .ref k30, .ref k31, .int 0, .ref k33, .int 0, .int 0, .ref k36, .ref k37, .ref k38, .ref k39]), (k1, eI (ty 0) 1875 (fun _ => 0)), (k5, eI (ty 0) 900 (fun _ => 0))]) C hP hD hS 0 rfl rfl lay_X9 tok_X9 nmo_X9 7 (by decide) k_1552 rfl rfl rfl (nle rfl) rfl d_X9_house_27 (fun H locs hP hD hS => ?_)
  refine lv_aload_n hx hb d_X9_house_30 rfl (lv_at hl 0 rfl) ?_
  refine lv_iconst (v := 0) hx hb d_X9_house_31 (by decide) ?_
  refine r_put (w := [(h0, eO 9 [.ref k0, .ref k1, .ref k2, .ref k3, .int 0, .ref k5, .int 0, .int 0, .int 0, .int 0, .int 0, .int 0, .int 0, .int 0, .int 0, .int (-1), .int 0, .int 0, .int 0, .ref k19, .ref k20, .ref k21, .ref k22, .ref k23, .int 0, .ref k25, .ref k26, .ref k27, .int 0, .int 0, .ref k30, .ref k31, .int 0, .ref k33, .int 0, .int 0, .ref k36, .ref k37, .ref k38, .ref k39]), (k1, eI (ty 0) 1875 (fun _ => 0)), (k5, eI (ty 0) 900 (fun _ => 0))]) C hP hD hS 0 rfl rfl lay_X9 tok_X9 nmo_X9 6 (by decide) k_1551 rfl rfl rfl (nle rfl) rfl d_X9_house_32 (fun H locs hP hD hS => ?_)
  refine lv_aload_n hx hb d_X9_house_35 rfl (lv_at hl 0 rfl) ?_
  refine lv_iconst (v := 0) hx hb d_X9_house_36 (by decide) ?_
  refine r_put (w := [(h0, eO 9 [.ref k0, .ref k1, .ref k2, .ref k3, .int 0, .ref k5, .int 0, .int 0, .int 0, .int 0, .int 0, .int 0, .int 0, .int 0, .int 0, .int (-1), .int 0, .int 0, .int 0, .ref k19, .ref k20, .ref k21, .ref k22, .ref k23, .int 0, .ref k25, .ref k26, .ref k27, .int 0, .int 0, .ref k30, .ref k31, .int 0, .ref k33, .int 0, .int 0, .ref k36, .ref k37, .ref k38, .ref k39]), (k1, eI (ty 0) 1875 (fun _ => 0)), (k5, eI (ty 0) 900 (fun _ => 0))]) C hP hD hS 0 rfl rfl lay_X9 tok_X9 nmo_X9 8 (by decide) k_1553 rfl rfl rfl (nle rfl) rfl d_X9_house_37 (fun H locs hP hD hS => ?_)
  refine lv_aload_n hx hb d_X9_house_40 rfl (lv_at hl 0 rfl) ?_
  refine lv_iconst (v := 0) hx hb d_X9_house_41 (by decide) ?_
  refine r_put (w := [(h0, eO 9 [.ref k0, .ref k1, .ref k2, .ref k3, .int 0, .ref k5, .int 0, .int 0, .int 0, .int 0, .int 0, .int 0, .int 0, .int 0, .int 0, .int (-1), .int 0, .int 0, .int 0, .ref k19, .ref k20, .ref k21, .ref k22, .ref k23, .int 0, .ref k25, .ref k26, .ref k27, .int 0, .int 0, .ref k30, .ref k31, .int 0, .ref k33, .int 0, .int 0, .ref k36, .ref k37, .ref k38, .ref k39]), (k1, eI (ty 0) 1875 (fun _ => 0)), (k5, eI (ty 0) 900 (fun _ => 0))]) C hP hD hS 0 rfl rfl lay_X9 tok_X9 nmo_X9 12 (by decide) k_1557 rfl rfl rfl (nle rfl) rfl d_X9_house_42 (fun H locs hP hD hS => ?_)
  refine lv_aload_n hx hb d_X9_house_45 rfl (lv_at hl 0 rfl) ?_
  refine lv_iconst (v := 0) hx hb d_X9_house_46 (by decide) ?_
  refine r_put (w := [(h0, eO 9 [.ref k0, .ref k1, .ref k2, .ref k3, .int 0, .ref k5, .int 0, .int 0, .int 0, .int 0, .int 0, .int 0, .int 0, .int 0, .int 0, .int (-1), .int 0, .int 0, .int 0, .ref k19, .ref k20, .ref k21, .ref k22, .ref k23, .int 0, .ref k25, .ref k26, .ref k27, .int 0, .int 0, .ref k30, .ref k31, .int 0, .ref k33, .int 0, .int 0, .ref k36, .ref k37, .ref k38, .ref k39]), (k1, eI (ty 0) 1875 (fun _ => 0)), (k5, eI (ty 0) 900 (fun _ => 0))]) C hP hD hS 0 rfl rfl lay_X9 tok_X9 nmo_X9 16 (by decide) k_1561 rfl rfl rfl (nle rfl) rfl d_X9_house_47 (fun H locs hP hD hS => ?_)
  refine lv_iconst (v := 0) hx hb d_X9_house_50 (by decide) ?_
  refine lv_istore_n (lv' := [(2, .int 0), (0, .ref h0), (1, .int 0)]) hx hb d_X9_house_51 rfl hl (by decide) rfl (fun ls hl => ?_)
  refine loopW2 (fun (i : Nat) (g : Nat → Int32) (H : Heap) (locs : List Loc) (ls : Array Slot) => (i ≤ 1875) ∧ va_P D vwCl [(h0, eO 9 [.ref k0, .ref k1, .ref k2, .ref k3, .int 0, .ref k5, .int 0, .int 0, .int 0, .int 0, .int 0, .int 0, .int 0, .int 0, .int 0, .int (-1), .int 0, .int 0, .int 0, .ref k19, .ref k20, .ref k21, .ref k22, .ref k23, .int 0, .ref k25, .ref k26, .ref k27, .int 0, .int 0, .ref k30, .ref k31, .int 0, .ref k33, .int 0, .int 0, .ref k36, .ref k37, .ref k38, .ref k39]), (k1, eI (ty 0) 1875 g), (k5, eI (ty 0) 900 (fun _ => 0))] H ∧ va_D A [(h0, eO 9 [.ref k0, .ref k1, .ref k2, .ref k3, .int 0, .ref k5, .int 0, .int 0, .int 0, .int 0, .int 0, .int 0, .int 0, .int 0, .int 0, .int (-1), .int 0, .int 0, .int 0, .ref k19, .ref k20, .ref k21, .ref k22, .ref k23, .int 0, .ref k25, .ref k26, .ref k27, .int 0, .int 0, .ref k30, .ref k31, .int 0, .ref k33, .int 0, .int 0, .ref k36, .ref k37, .ref k38, .ref k39]), (k1, eI (ty 0) 1875 g), (k5, eI (ty 0) 900 (fun _ => 0))] ∧ va_S A s.heap H locs ∧ lv_has ls 3 [(2, .int (nI i)), (0, .ref h0), (1, .int 0)]) (fun (i : Nat) (g : Nat → Int32) => 1875 - i) ?_ 0 (fun _ => 0) ⟨(by omega), hP, hD, hS, lv_sub hl [0, 1, 2] rfl⟩
  intro i g H locs ls hI ih_5
  obtain ⟨hi, hP, hD, hS, hl⟩ := hI
  refine lv_iload_n hx hb d_X9_house_52 rfl (lv_at hl 0 rfl) ?_
  refine lv_sipush (v := 1875) hx hb d_X9_house_53 (by decide) ?_
  refine lv_icmp_ge (tgt := 72) hx hb d_X9_house_56 (by decide) (fun hc_6 => ?_) (fun hc_6 => ?_)
  · have hc_6 := un_le 1875 i rfl rfl (by omega) (by omega) hc_6
    refine lv_aload_n hx hb d_X9_house_72 rfl (lv_at hl 1 rfl) ?_
    refine r_get (v := .ref k1) C hP 0 rfl rfl lay_X9 1 (by decide) k_1546 rfl d_X9_house_73 ?_
    refine lv_bipush (v := 7) hx hb d_X9_house_76 (by decide) ?_
    refine lv_iconst (v := (-1)) hx hb d_X9_house_78 (by decide) ?_
    refine r_iast (w := [(h0, eO 9 [.ref k0, .ref k1, .ref k2, .ref k3, .int 0, .ref k5, .int 0, .int 0, .int 0, .int 0, .int 0, .int 0, .int 0, .int 0, .int 0, .int (-1), .int 0, .int 0, .int 0, .ref k19, .ref k20, .ref k21, .ref k22, .ref k23, .int 0, .ref k25, .ref k26, .ref k27, .int 0, .int 0, .ref k30, .ref k31, .int 0, .ref k33, .int 0, .int 0, .ref k36, .ref k37, .ref k38, .ref k39]), (k1, eI (ty 0) 1875 (upd g 7 (-1))), (k5, eI (ty 0) 900 (fun _ => 0))]) C hP hD hS 1 rfl 7 rfl (by decide) (by decide) rfl d_X9_house_79 (fun H locs hP hD hS => ?_)
    obtain ⟨tl_7, htl_8⟩ : ∃ g9 : Nat → Int32, (upd g 7 (-1)) = g9 := ⟨_, rfl⟩
    rw [htl_8] at hP hD
    refine lv_aload_n hx hb d_X9_house_80 rfl (lv_at hl 1 rfl) ?_
    have ct_9 : Cut [(h0, eO 9 [.ref k0, .ref k1, .ref k2, .ref k3, .int 0, .ref k5, .int 0, .int 0, .int 0, .int 0, .int 0, .int 0, .int 0, .int 0, .int 0, .int (-1), .int 0, .int 0, .int 0, .ref k19, .ref k20, .ref k21, .ref k22, .ref k23, .int 0, .ref k25, .ref k26, .ref k27, .int 0, .int 0, .ref k30, .ref k31, .int 0, .ref k33, .int 0, .int 0, .ref k36, .ref k37, .ref k38, .ref k39]), (k1, eI (ty 0) 1875 tl_7), (k5, eI (ty 0) 900 (fun _ => 0))] [(h0, eO 9 [.ref k0, .ref k1, .ref k2, .ref k3, .int 0, .ref k5, .int 0, .int 0, .int 0, .int 0, .int 0, .int 0, .int 0, .int 0, .int 0, .int (-1), .int 0, .int 0, .int 0, .ref k19, .ref k20, .ref k21, .ref k22, .ref k23, .int 0, .ref k25, .ref k26, .ref k27, .int 0, .int 0, .ref k30, .ref k31, .int 0, .ref k33, .int 0, .int 0, .ref k36, .ref k37, .ref k38, .ref k39]), (k1, eI (ty 0) 1875 tl_7), (k5, eI (ty 0) 900 (fun _ => 0))] [] [0, 1, 2] [] := ⟨rfl, rfl, rfl, rfl, by decide⟩
    refine cont_V C hP hD hS ct_9 (run_V (As := []) (rest := []) C hP hD hS ct_9 (a_X9_readsOn_1 l D ty h0 k1 k5 k0 k2 k3 k19 k20 k21 k22 k23 k25 k26 k27 k30 k31 k33 k36 k37 k38 k39 tl_7) kV_PinchedBillModel_133 0 rfl rfl rfl rfl hl.1 rfl (nle rfl) d_X9_house_81 ⟨by decide, by decide, by decide, by decide⟩) (fun w_12 H locs hw_10 hP hD hS => ?_)
    subst hw_10
    have hP : va_P D vwCl [(h0, eO 9 [.ref k0, .ref k1, .ref k2, .ref k3, .int 0, .ref k5, .int 0, .int 0, .int 0, .int 0, .int 0, .int 0, .int 0, .int 0, .int 0, .int (-1), .int 0, .int 0, .int 0, .ref k19, .ref k20, .ref k21, .ref k22, .ref k23, .int 0, .ref k25, .ref k26, .ref k27, .int 0, .int 0, .ref k30, .ref k31, .int 0, .ref k33, .int 0, .int 0, .ref k36, .ref k37, .ref k38, .ref k39]), (k1, eI (ty 0) 1875 tl_7), (k5, eI (ty 0) 900 (fun _ => 0))] H := hP
    have hD : va_D A [(h0, eO 9 [.ref k0, .ref k1, .ref k2, .ref k3, .int 0, .ref k5, .int 0, .int 0, .int 0, .int 0, .int 0, .int 0, .int 0, .int 0, .int 0, .int (-1), .int 0, .int 0, .int 0, .ref k19, .ref k20, .ref k21, .ref k22, .ref k23, .int 0, .ref k25, .ref k26, .ref k27, .int 0, .int 0, .ref k30, .ref k31, .int 0, .ref k33, .int 0, .int 0, .ref k36, .ref k37, .ref k38, .ref k39]), (k1, eI (ty 0) 1875 tl_7), (k5, eI (ty 0) 900 (fun _ => 0))] := hD
    refine lv_aload_n hx hb d_X9_house_84 rfl (lv_at hl 1 rfl) ?_
    obtain ⟨sa_13, hsa_14⟩ := hE.2.2.2.1 ("PinchedBillModel", 245, "house") (by decide +kernel)
    refine va_ldcS hx hb hown hsa_14 d_X9_house_85 ?_
    have ct_15 : Cut [(h0, eO 9 [.ref k0, .ref k1, .ref k2, .ref k3, .int 0, .ref k5, .int 0, .int 0, .int 0, .int 0, .int 0, .int 0, .int 0, .int 0, .int 0, .int (-1), .int 0, .int 0, .int 0, .ref k19, .ref k20, .ref k21, .ref k22, .ref k23, .int 0, .ref k25, .ref k26, .ref k27, .int 0, .int 0, .ref k30, .ref k31, .int 0, .ref k33, .int 0, .int 0, .ref k36, .ref k37, .ref k38, .ref k39]), (k1, eI (ty 0) 1875 tl_7), (k5, eI (ty 0) 900 (fun _ => 0))] [(h0, eO 9 [.ref k0, .ref k1, .ref k2, .ref k3, .int 0, .ref k5, .int 0, .int 0, .int 0, .int 0, .int 0, .int 0, .int 0, .int 0, .int 0, .int (-1), .int 0, .int 0, .int 0, .ref k19, .ref k20, .ref k21, .ref k22, .ref k23, .int 0, .ref k25, .ref k26, .ref k27, .int 0, .int 0, .ref k30, .ref k31, .int 0, .ref k33, .int 0, .int 0, .ref k36, .ref k37, .ref k38, .ref k39]), (k1, eI (ty 0) 1875 tl_7), (k5, eI (ty 0) 900 (fun _ => 0))] [] [0, 1, 2] [] := ⟨rfl, rfl, rfl, rfl, by decide⟩
    refine cont_V C hP hD hS ct_15 (run_V (As := [.ref sa_13]) (rest := []) C hP hD hS ct_15 (a_X9_mustWord_2 l D ty h0 k1 k5 sa_13 k0 k2 k3 k19 k20 k21 k22 k23 k25 k26 k27 k30 k31 k33 k36 k37 k38 k39 tl_7) kV_PinchedBillModel_247 0 rfl rfl rfl rfl hl.1 rfl (nle rfl) d_X9_house_87 ⟨by decide, by decide, by decide, by decide⟩) (fun w_18 H locs hw_16 hP hD hS => ?_)
    subst hw_16
    have hP : va_P D vwCl [(h0, eO 9 [.ref k0, .ref k1, .ref k2, .ref k3, .int 0, .ref k5, .int 0, .int 0, .int 0, .int 0, .int 0, .int 0, .int 2, .int 0, .int 0, .int (-1), .int 0, .int 0, .int 0, .ref k19, .ref k20, .ref k21, .ref k22, .ref k23, .int 0, .ref k25, .ref k26, .ref k27, .int 0, .int 0, .ref k30, .ref k31, .int 0, .ref k33, .int 0, .int 0, .ref k36, .ref k37, .ref k38, .ref k39]), (k1, eI (ty 0) 1875 tl_7), (k5, eI (ty 0) 900 (fun _ => 0))] H := hP
    have hD : va_D A [(h0, eO 9 [.ref k0, .ref k1, .ref k2, .ref k3, .int 0, .ref k5, .int 0, .int 0, .int 0, .int 0, .int 0, .int 0, .int 2, .int 0, .int 0, .int (-1), .int 0, .int 0, .int 0, .ref k19, .ref k20, .ref k21, .ref k22, .ref k23, .int 0, .ref k25, .ref k26, .ref k27, .int 0, .int 0, .ref k30, .ref k31, .int 0, .ref k33, .int 0, .int 0, .ref k36, .ref k37, .ref k38, .ref k39]), (k1, eI (ty 0) 1875 tl_7), (k5, eI (ty 0) 900 (fun _ => 0))] := hD
    refine lv_aload_n hx hb d_X9_house_90 rfl (lv_at hl 1 rfl) ?_
    obtain ⟨sa_19, hsa_20⟩ := hE.2.2.2.1 ("PinchedBillModel", 251, "lines") (by decide +kernel)
    refine va_ldcS hx hb hown hsa_20 d_X9_house_91 ?_
    have ct_21 : Cut [(h0, eO 9 [.ref k0, .ref k1, .ref k2, .ref k3, .int 0, .ref k5, .int 0, .int 0, .int 0, .int 0, .int 0, .int 0, .int 2, .int 0, .int 0, .int (-1), .int 0, .int 0, .int 0, .ref k19, .ref k20, .ref k21, .ref k22, .ref k23, .int 0, .ref k25, .ref k26, .ref k27, .int 0, .int 0, .ref k30, .ref k31, .int 0, .ref k33, .int 0, .int 0, .ref k36, .ref k37, .ref k38, .ref k39]), (k1, eI (ty 0) 1875 tl_7), (k5, eI (ty 0) 900 (fun _ => 0))] [(h0, eO 9 [.ref k0, .ref k1, .ref k2, .ref k3, .int 0, .ref k5, .int 0, .int 0, .int 0, .int 0, .int 0, .int 0, .int 2, .int 0, .int 0, .int (-1), .int 0, .int 0, .int 0, .ref k19, .ref k20, .ref k21, .ref k22, .ref k23, .int 0, .ref k25, .ref k26, .ref k27, .int 0, .int 0, .ref k30, .ref k31, .int 0, .ref k33, .int 0, .int 0, .ref k36, .ref k37, .ref k38, .ref k39]), (k1, eI (ty 0) 1875 tl_7), (k5, eI (ty 0) 900 (fun _ => 0))] [] [0, 1, 2] [] := ⟨rfl, rfl, rfl, rfl, by decide⟩
    refine cont_V C hP hD hS ct_21 (run_V (As := [.ref sa_19]) (rest := []) C hP hD hS ct_21 (a_X9_mustWord_6 l D ty h0 k1 k5 sa_19 k0 k2 k3 k19 k20 k21 k22 k23 k25 k26 k27 k30 k31 k33 k36 k37 k38 k39 tl_7) kV_PinchedBillModel_247 0 rfl rfl rfl rfl hl.1 rfl (nle rfl) d_X9_house_93 ⟨by decide, by decide, by decide, by decide⟩) (fun w_24 H locs hw_22 hP hD hS => ?_)
    subst hw_22
    have hP : va_P D vwCl [(h0, eO 9 [.ref k0, .ref k1, .ref k2, .ref k3, .int 0, .ref k5, .int 0, .int 0, .int 0, .int 0, .int 0, .int 0, .int 2, .int 0, .int 0, .int (-1), .int 0, .int 0, .int 0, .ref k19, .ref k20, .ref k21, .ref k22, .ref k23, .int 0, .ref k25, .ref k26, .ref k27, .int 0, .int 0, .ref k30, .ref k31, .int 0, .ref k33, .int 0, .int 0, .ref k36, .ref k37, .ref k38, .ref k39]), (k1, eI (ty 0) 1875 tl_7), (k5, eI (ty 0) 900 (fun _ => 0))] H := hP
    have hD : va_D A [(h0, eO 9 [.ref k0, .ref k1, .ref k2, .ref k3, .int 0, .ref k5, .int 0, .int 0, .int 0, .int 0, .int 0, .int 0, .int 2, .int 0, .int 0, .int (-1), .int 0, .int 0, .int 0, .ref k19, .ref k20, .ref k21, .ref k22, .ref k23, .int 0, .ref k25, .ref k26, .ref k27, .int 0, .int 0, .ref k30, .ref k31, .int 0, .ref k33, .int 0, .int 0, .ref k36, .ref k37, .ref k38, .ref k39]), (k1, eI (ty 0) 1875 tl_7), (k5, eI (ty 0) 900 (fun _ => 0))] := hD
    refine lv_aload_n hx hb d_X9_house_96 rfl (lv_at hl 1 rfl) ?_
    refine r_get (v := .ref k1) C hP 0 rfl rfl lay_X9 1 (by decide) k_1546 rfl d_X9_house_97 ?_
    refine lv_iconst (v := 1) hx hb d_X9_house_100 (by decide) ?_
    refine lv_aload_n hx hb d_X9_house_101 rfl (lv_at hl 1 rfl) ?_
    refine lv_iconst (v := 1) hx hb d_X9_house_102 (by decide) ?_
    refine lv_iconst (v := 3) hx hb d_X9_house_103 (by decide) ?_
    have ct_25 : Cut [(h0, eO 9 [.ref k0, .ref k1, .ref k2, .ref k3, .int 0, .ref k5, .int 0, .int 0, .int 0, .int 0, .int 0, .int 0, .int 2, .int 0, .int 0, .int (-1), .int 0, .int 0, .int 0, .ref k19, .ref k20, .ref k21, .ref k22, .ref k23, .int 0, .ref k25, .ref k26, .ref k27, .int 0, .int 0, .ref k30, .ref k31, .int 0, .ref k33, .int 0, .int 0, .ref k36, .ref k37, .ref k38, .ref k39]), (k1, eI (ty 0) 1875 tl_7), (k5, eI (ty 0) 900 (fun _ => 0))] [(h0, eO 9 [.ref k0, .ref k1, .ref k2, .ref k3, .int 0, .ref k5, .int 0, .int 0, .int 0, .int 0, .int 0, .int 0, .int 2, .int 0, .int 0, .int (-1), .int 0, .int 0, .int 0, .ref k19, .ref k20, .ref k21, .ref k22, .ref k23, .int 0, .ref k25, .ref k26, .ref k27, .int 0, .int 0, .ref k30, .ref k31, .int 0, .ref k33, .int 0, .int 0, .ref k36, .ref k37, .ref k38, .ref k39]), (k1, eI (ty 0) 1875 tl_7), (k5, eI (ty 0) 900 (fun _ => 0))] [] [0, 1, 2] [] := ⟨rfl, rfl, rfl, rfl, by decide⟩
    refine cont_I C hP hD hS ct_25 (run_V (As := [.int 1, .int 3]) (rest := [.int 1, .ref k1]) C hP hD hS ct_25 (a_X9_number_10 l D ty h0 k1 k5 k0 k2 k3 k19 k20 k21 k22 k23 k25 k26 k27 k30 k31 k33 k36 k37 k38 k39 tl_7) kV_PinchedBillModel_210 0 rfl rfl rfl rfl hl.1 rfl (nle rfl) d_X9_house_104 ⟨by decide, by decide, by decide, by decide⟩) (fun r_27 w_28 H locs hw_26 hP hD hS => ?_)
    obtain ⟨rfl, rfl⟩ := hw_26
    have hP : va_P D vwCl [(h0, eO 9 [.ref k0, .ref k1, .ref k2, .ref k3, .int 0, .ref k5, .int 0, .int 0, .int 0, .int 0, .int 0, .int 0, .int 2, .int 0, .int 0, .int (-1), .int 0, .int 0, .int 0, .ref k19, .ref k20, .ref k21, .ref k22, .ref k23, .int 0, .ref k25, .ref k26, .ref k27, .int 0, .int 0, .ref k30, .ref k31, .int 0, .ref k33, .int 0, .int 0, .ref k36, .ref k37, .ref k38, .ref k39]), (k1, eI (ty 0) 1875 tl_7), (k5, eI (ty 0) 900 (fun _ => 0))] H := hP
    have hD : va_D A [(h0, eO 9 [.ref k0, .ref k1, .ref k2, .ref k3, .int 0, .ref k5, .int 0, .int 0, .int 0, .int 0, .int 0, .int 0, .int 2, .int 0, .int 0, .int (-1), .int 0, .int 0, .int 0, .ref k19, .ref k20, .ref k21, .ref k22, .ref k23, .int 0, .ref k25, .ref k26, .ref k27, .int 0, .int 0, .ref k30, .ref k31, .int 0, .ref k33, .int 0, .int 0, .ref k36, .ref k37, .ref k38, .ref k39]), (k1, eI (ty 0) 1875 tl_7), (k5, eI (ty 0) 900 (fun _ => 0))] := hD
    refine r_iast (w := [(h0, eO 9 [.ref k0, .ref k1, .ref k2, .ref k3, .int 0, .ref k5, .int 0, .int 0, .int 0, .int 0, .int 0, .int 0, .int 2, .int 0, .int 0, .int (-1), .int 0, .int 0, .int 0, .ref k19, .ref k20, .ref k21, .ref k22, .ref k23, .int 0, .ref k25, .ref k26, .ref k27, .int 0, .int 0, .ref k30, .ref k31, .int 0, .ref k33, .int 0, .int 0, .ref k36, .ref k37, .ref k38, .ref k39]), (k1, eI (ty 0) 1875 (upd tl_7 1 1)), (k5, eI (ty 0) 900 (fun _ => 0))]) C hP hD hS 1 rfl 1 rfl (by decide) (by decide) rfl d_X9_house_107 (fun H locs hP hD hS => ?_)
    obtain ⟨tl_29, htl_30⟩ : ∃ g9 : Nat → Int32, (upd tl_7 1 1) = g9 := ⟨_, rfl⟩
    rw [htl_30] at hP hD
    refine lv_aload_n hx hb d_X9_house_108 rfl (lv_at hl 1 rfl) ?_
    have ct_31 : Cut [(h0, eO 9 [.ref k0, .ref k1, .ref k2, .ref k3, .int 0, .ref k5, .int 0, .int 0, .int 0, .int 0, .int 0, .int 0, .int 2, .int 0, .int 0, .int (-1), .int 0, .int 0, .int 0, .ref k19, .ref k20, .ref k21, .ref k22, .ref k23, .int 0, .ref k25, .ref k26, .ref k27, .int 0, .int 0, .ref k30, .ref k31, .int 0, .ref k33, .int 0, .int 0, .ref k36, .ref k37, .ref k38, .ref k39]), (k1, eI (ty 0) 1875 tl_29), (k5, eI (ty 0) 900 (fun _ => 0))] [(h0, eO 9 [.ref k0, .ref k1, .ref k2, .ref k3, .int 0, .ref k5, .int 0, .int 0, .int 0, .int 0, .int 0, .int 0, .int 2, .int 0, .int 0, .int (-1), .int 0, .int 0, .int 0, .ref k19, .ref k20, .ref k21, .ref k22, .ref k23, .int 0, .ref k25, .ref k26, .ref k27, .int 0, .int 0, .ref k30, .ref k31, .int 0, .ref k33, .int 0, .int 0, .ref k36, .ref k37, .ref k38, .ref k39]), (k1, eI (ty 0) 1875 tl_29), (k5, eI (ty 0) 900 (fun _ => 0))] [] [0, 1, 2] [] := ⟨rfl, rfl, rfl, rfl, by decide⟩
    refine cont_V C hP hD hS ct_31 (run_V (As := []) (rest := []) C hP hD hS ct_31 (a_X9_readStop_11 l D ty h0 k1 k5 k0 k2 k3 k19 k20 k21 k22 k23 k25 k26 k27 k30 k31 k33 k36 k37 k38 k39 tl_29) kV_PinchedBillModel_239 0 rfl rfl rfl rfl hl.1 rfl (nle rfl) d_X9_house_109 ⟨by decide, by decide, by decide, by decide⟩) (fun w_34 H locs hw_32 hP hD hS => ?_)
    subst hw_32
    have hP : va_P D vwCl [(h0, eO 9 [.ref k0, .ref k1, .ref k2, .ref k3, .int 0, .ref k5, .int 0, .int 0, .int 0, .int 0, .int 0, .int 0, .int 2, .int 0, .int 0, .int (-1), .int 0, .int 0, .int 0, .ref k19, .ref k20, .ref k21, .ref k22, .ref k23, .int 0, .ref k25, .ref k26, .ref k27, .int 0, .int 0, .ref k30, .ref k31, .int 0, .ref k33, .int 0, .int 0, .ref k36, .ref k37, .ref k38, .ref k39]), (k1, eI (ty 0) 1875 tl_29), (k5, eI (ty 0) 900 (fun _ => 0))] H := hP
    have hD : va_D A [(h0, eO 9 [.ref k0, .ref k1, .ref k2, .ref k3, .int 0, .ref k5, .int 0, .int 0, .int 0, .int 0, .int 0, .int 0, .int 2, .int 0, .int 0, .int (-1), .int 0, .int 0, .int 0, .ref k19, .ref k20, .ref k21, .ref k22, .ref k23, .int 0, .ref k25, .ref k26, .ref k27, .int 0, .int 0, .ref k30, .ref k31, .int 0, .ref k33, .int 0, .int 0, .ref k36, .ref k37, .ref k38, .ref k39]), (k1, eI (ty 0) 1875 tl_29), (k5, eI (ty 0) 900 (fun _ => 0))] := hD
    refine lv_aload_n hx hb d_X9_house_112 rfl (lv_at hl 1 rfl) ?_
    refine r_get (v := .int 2) C hP 0 rfl rfl lay_X9 12 (by decide) k_1557 rfl d_X9_house_113 ?_
    refine b_if_neT C 133 d_X9_house_116 (by decide) (by decide) ?_
    refine lv_aload_n hx hb d_X9_house_133 rfl (lv_at hl 1 rfl) ?_
    refine lv_aload_n hx hb d_X9_house_134 rfl (lv_at hl 1 rfl) ?_
    refine r_get (v := .int 2) C hP 0 rfl rfl lay_X9 12 (by decide) k_1557 rfl d_X9_house_135 ?_
    refine r_put (w := [(h0, eO 9 [.ref k0, .ref k1, .ref k2, .ref k3, .int 0, .ref k5, .int 0, .int 0, .int 0, .int 0, .int 0, .int 0, .int 2, .int 0, .int 2, .int (-1), .int 0, .int 0, .int 0, .ref k19, .ref k20, .ref k21, .ref k22, .ref k23, .int 0, .ref k25, .ref k26, .ref k27, .int 0, .int 0, .ref k30, .ref k31, .int 0, .ref k33, .int 0, .int 0, .ref k36, .ref k37, .ref k38, .ref k39]), (k1, eI (ty 0) 1875 tl_29), (k5, eI (ty 0) 900 (fun _ => 0))]) C hP hD hS 0 rfl rfl lay_X9 tok_X9 nmo_X9 14 (by decide) k_1559 rfl rfl rfl (nle rfl) rfl d_X9_house_138 (fun H locs hP hD hS => ?_)
    refine lv_aload_n hx hb d_X9_house_141 rfl (lv_at hl 1 rfl) ?_
    refine lv_aload_n hx hb d_X9_house_142 rfl (lv_at hl 1 rfl) ?_
    refine r_get (v := .int 2) C hP 0 rfl rfl lay_X9 12 (by decide) k_1557 rfl d_X9_house_143 ?_
    refine b_if_neT C 153 d_X9_house_146 (by decide) (by decide) ?_
    refine lv_aload_n hx hb d_X9_house_153 rfl (lv_at hl 1 rfl) ?_
    refine r_get (v := .int 0) C hP 0 rfl rfl lay_X9 13 (by decide) k_1558 rfl d_X9_house_154 ?_
    refine r_put (w := [(h0, eO 9 [.ref k0, .ref k1, .ref k2, .ref k3, .int 0, .ref k5, .int 0, .int 0, .int 0, .int 0, .int 0, .int 0, .int 2, .int 0, .int 2, .int 0, .int 0, .int 0, .int 0, .ref k19, .ref k20, .ref k21, .ref k22, .ref k23, .int 0, .ref k25, .ref k26, .ref k27, .int 0, .int 0, .ref k30, .ref k31, .int 0, .ref k33, .int 0, .int 0, .ref k36, .ref k37, .ref k38, .ref k39]), (k1, eI (ty 0) 1875 tl_29), (k5, eI (ty 0) 900 (fun _ => 0))]) C hP hD hS 0 rfl rfl lay_X9 tok_X9 nmo_X9 15 (by decide) k_1560 rfl rfl rfl (nle rfl) rfl d_X9_house_157 (fun H locs hP hD hS => ?_)
    refine lv_aload_n hx hb d_X9_house_160 rfl (lv_at hl 1 rfl) ?_
    refine r_get (v := .int 2) C hP 0 rfl rfl lay_X9 12 (by decide) k_1557 rfl d_X9_house_161 ?_
    refine b_if_eqF C 175 d_X9_house_164 (by decide) (by decide) ?_
    refine lv_bipush (v := (-10)) hx hb d_X9_house_167 (by decide) ?_
    refine lv_aload_n hx hb d_X9_house_169 rfl (lv_at hl 1 rfl) ?_
    refine r_get (v := .int 2) C hP 0 rfl rfl lay_X9 12 (by decide) k_1557 rfl d_X9_house_170 ?_
    refine r_isub (z := (-12)) C d_X9_house_173 (by decide) ?_
    exact ret_I (w := [(h0, eO 9 [.ref k0, .ref k1, .ref k2, .ref k3, .int 0, .ref k5, .int 0, .int 0, .int 0, .int 0, .int 0, .int 0, .int 2, .int 0, .int 2, .int 0, .int 0, .int 0, .int 0, .ref k19, .ref k20, .ref k21, .ref k22, .ref k23, .int 0, .ref k25, .ref k26, .ref k27, .int 0, .int 0, .ref k30, .ref k31, .int 0, .ref k33, .int 0, .int 0, .ref k36, .ref k37, .ref k38, .ref k39])]) C hP hD hS [0] rfl rfl ⟨(.int 0), (.int 0), (.int 0), (.int 0), (.int 0), (.int 0), (.int 2), (.int 0), (.int 2), (.int 0), (.int 0), (.int 0), (.int 0), (.int 0), (.int 0), (.int 0), (.int 0), (.int 0), (.int 0), rfl, rfl⟩ (by decide) (by decide) d_X9_house_174
  · have hc_6 := un_nle 1875 i rfl rfl (by omega) (by omega) hc_6
    refine lv_aload_n hx hb d_X9_house_59 rfl (lv_at hl 1 rfl) ?_
    refine r_get (v := .ref k1) C hP 0 rfl rfl lay_X9 1 (by decide) k_1546 rfl d_X9_house_60 ?_
    refine lv_iload_n hx hb d_X9_house_63 rfl (lv_at hl 0 rfl) ?_
    refine lv_iconst (v := 0) hx hb d_X9_house_64 (by decide) ?_
    refine r_iast (w := [(h0, eO 9 [.ref k0, .ref k1, .ref k2, .ref k3, .int 0, .ref k5, .int 0, .int 0, .int 0, .int 0, .int 0, .int 0, .int 0, .int 0, .int 0, .int (-1), .int 0, .int 0, .int 0, .ref k19, .ref k20, .ref k21, .ref k22, .ref k23, .int 0, .ref k25, .ref k26, .ref k27, .int 0, .int 0, .ref k30, .ref k31, .int 0, .ref k33, .int 0, .int 0, .ref k36, .ref k37, .ref k38, .ref k39]), (k1, eI (ty 0) 1875 (upd g i 0)), (k5, eI (ty 0) 900 (fun _ => 0))]) C hP hD hS 1 rfl i rfl (by omega) (by decide) rfl d_X9_house_65 (fun H locs hP hD hS => ?_)
    obtain ⟨tl_35, htl_36⟩ : ∃ g9 : Nat → Int32, (upd g i 0) = g9 := ⟨_, rfl⟩
    rw [htl_36] at hP hD
    refine lv_iinc (v := (nI (i + 1))) (lv' := [(2, .int (nI (i + 1))), (0, .ref h0), (1, .int 0)]) (k := 0) hx hb d_X9_house_66 hl rfl (a_inc i 1 (i + 1) rfl rfl) (by decide) rfl (fun ls hl => ?_)
    refine lv_goto (tgt := 52) hx hb d_X9_house_69 (by decide) ?_
    exact ih_5 (i + 1) tl_35 _ _ _ (by omega) ⟨(by omega), sub_P hP (is := [0, 1, 2]) rfl, hD.sub [0, 1, 2] (by decide) rfl, hS, lv_sub hl [0, 1, 2] rfl⟩
set_option maxHeartbeats 4000000 in
set_option maxRecDepth 100000 in
theorem m_houseF (l : Launch) (D : va_G) (ty : Nat → ClassId) (h0 : Nat) (k0 : Nat) (k1 : Nat) (k2 : Nat) (k3 : Nat) (k5 : Nat) (k19 : Nat) (k20 : Nat) (k21 : Nat) (k22 : Nat) (k23 : Nat) (k25 : Nat) (k26 : Nat) (k27 : Nat) (k30 : Nat) (k31 : Nat) (k33 : Nat) (k36 : Nat) (k37 : Nat) (k38 : Nat) (k39 : Nat) (n : Int32) (hnp : ¬ ((¬ n < 0 ∧ ¬ 0 < n))) : CC l D ty ⟨"PinchedBillModel", "house", "(I)I"⟩ prog_11_method_35_code 3 (some .int) 1 25 0 0 [.ref h0, .int n] [(h0, eO 9 [.ref k0, .ref k1, .ref k2, .ref k3, .int 0, .ref k5, .int 0, .int 0, .int 0, .int 0, .int 0, .int 0, .int 0, .int 0, .int 0, .int (-1), .int 0, .int 0, .int 0, .ref k19, .ref k20, .ref k21, .ref k22, .ref k23, .int 0, .ref k25, .ref k26, .ref k27, .int 0, .int 0, .ref k30, .ref k31, .int 0, .ref k33, .int 0, .int 0, .ref k36, .ref k37, .ref k38, .ref k39])] (QI D ty (fun (r : Int32) (w : va_W) => ∃ (w6 : Value) (w7 : Value) (w8 : Value) (w9 : Value) (w10 : Value) (w11 : Value) (w12 : Value) (w13 : Value) (w14 : Value) (w15 : Value) (w16 : Value) (w17 : Value) (w18 : Value) (w24 : Value) (w28 : Value) (w29 : Value) (w32 : Value) (w34 : Value) (w35 : Value), 0 = r ∧ w = [(h0, eO 9 [.ref k0, .ref k1, .ref k2, .ref k3, .int 1, .ref k5, w6, w7, w8, w9, w10, w11, w12, w13, w14, w15, w16, w17, w18, .ref k19, .ref k20, .ref k21, .ref k22, .ref k23, w24, .ref k25, .ref k26, .ref k27, w28, w29, .ref k30, .ref k31, w32, .ref k33, w34, w35, .ref k36, .ref k37, .ref k38, .ref k39])])) := by
  refine CC_of (by decide) ?_
  intro p e s m below meth c A C hP hD hS
  obtain ⟨⟨hx, hb, hml, hown, hts⟩, hr, hlocks, hnm, hK, hE, hA, hZ⟩ := id C
  refine startW [.ref h0, .int n] 3 (nle rfl) (lv := [(0, .ref h0), (1, .int n)]) rfl (fun ls hl => ?_)
  have hq_1 : ¬ (¬ n < 0 ∧ ¬ 0 < n) := fun h9 => hnp h9
  have hgo9 := trivial
  refine lv_aload_n hx hb d_X9_house_0 rfl (lv_at hl 0 rfl) ?_
  refine lv_iconst (v := 0) hx hb d_X9_house_1 (by decide) ?_
  refine r_put (w := [(h0, eO 9 [.ref k0, .ref k1, .ref k2, .ref k3, .int 0, .ref k5, .int 0, .int 0, .int 0, .int 0, .int 0, .int 0, .int 0, .int 0, .int 0, .int (-1), .int 0, .int 0, .int 0, .ref k19, .ref k20, .ref k21, .ref k22, .ref k23, .int 0, .ref k25, .ref k26, .ref k27, .int 0, .int 0, .ref k30, .ref k31, .int 0, .ref k33, .int 0, .int 0, .ref k36, .ref k37, .ref k38, .ref k39])]) C hP hD hS 0 rfl rfl lay_X9 tok_X9 nmo_X9 4 (by decide) k_1549 rfl rfl rfl (nle rfl) rfl d_X9_house_2 (fun H locs hP hD hS => ?_)
  refine lv_iload_n hx hb d_X9_house_5 rfl (lv_at hl 1 rfl) ?_
  refine lv_i2l (v := (n).toInt64) hx hb d_X9_house_6 rfl ?_
  refine lv_lconst (v := 0) hx hb d_X9_house_7 (by decide) ?_
  refine lv_aload_n hx hb d_X9_house_8 rfl (lv_at hl 0 rfl) ?_
  refine r_get (v := .int 0) C hP 0 rfl rfl lay_X9 6 (by decide) k_1551 rfl d_X9_house_9 ?_
  refine lv_i2l (v := 0) hx hb d_X9_house_12 (by decide) ?_
  have ct_2 : Cut [(h0, eO 9 [.ref k0, .ref k1, .ref k2, .ref k3, .int 0, .ref k5, .int 0, .int 0, .int 0, .int 0, .int 0, .int 0, .int 0, .int 0, .int 0, .int (-1), .int 0, .int 0, .int 0, .ref k19, .ref k20, .ref k21, .ref k22, .ref k23, .int 0, .ref k25, .ref k26, .ref k27, .int 0, .int 0, .ref k30, .ref k31, .int 0, .ref k33, .int 0, .int 0, .ref k36, .ref k37, .ref k38, .ref k39])] [] [(h0, eO 9 [.ref k0, .ref k1, .ref k2, .ref k3, .int 0, .ref k5, .int 0, .int 0, .int 0, .int 0, .int 0, .int 0, .int 0, .int 0, .int 0, .int (-1), .int 0, .int 0, .int 0, .ref k19, .ref k20, .ref k21, .ref k22, .ref k23, .int 0, .ref k25, .ref k26, .ref k27, .int 0, .int 0, .ref k30, .ref k31, .int 0, .ref k33, .int 0, .int 0, .ref k36, .ref k37, .ref k38, .ref k39])] [] [0] := ⟨rfl, rfl, rfl, rfl, by decide⟩
  refine cont_I C hP hD hS ct_2 (run_S (As := [.long (n).toInt64, .long 0, .long 0]) (rest := []) C hP hD hS ct_2 (c_mwi l D ty ((n).toInt64) 0 0) kS_PinchedBillModel_140 rfl hl.1 rfl (nle rfl) d_X9_house_13 ⟨by decide, by decide, by decide, by decide⟩) (fun r_4 w_5 H locs hw_3 hP hD hS => ?_)
  obtain ⟨rfl, rfl⟩ := hw_3
  have hP : va_P D vwCl [(h0, eO 9 [.ref k0, .ref k1, .ref k2, .ref k3, .int 0, .ref k5, .int 0, .int 0, .int 0, .int 0, .int 0, .int 0, .int 0, .int 0, .int 0, .int (-1), .int 0, .int 0, .int 0, .ref k19, .ref k20, .ref k21, .ref k22, .ref k23, .int 0, .ref k25, .ref k26, .ref k27, .int 0, .int 0, .ref k30, .ref k31, .int 0, .ref k33, .int 0, .int 0, .ref k36, .ref k37, .ref k38, .ref k39])] H := hP
  have hD : va_D A [(h0, eO 9 [.ref k0, .ref k1, .ref k2, .ref k3, .int 0, .ref k5, .int 0, .int 0, .int 0, .int 0, .int 0, .int 0, .int 0, .int 0, .int 0, .int (-1), .int 0, .int 0, .int 0, .ref k19, .ref k20, .ref k21, .ref k22, .ref k23, .int 0, .ref k25, .ref k26, .ref k27, .int 0, .int 0, .ref k30, .ref k31, .int 0, .ref k33, .int 0, .int 0, .ref k36, .ref k37, .ref k38, .ref k39])] := hD
  refine topeq (z := 0) (wiQ (n := n) (lo := 0) (hi := 0) rfl rfl rfl hq_1) ?_
  refine b_if_neF C 25 d_X9_house_16 (by decide) (by decide) ?_
  refine lv_aload_n hx hb d_X9_house_19 rfl (lv_at hl 0 rfl) ?_
  refine lv_iconst (v := 1) hx hb d_X9_house_20 (by decide) ?_
  have ct_6 : Cut [(h0, eO 9 [.ref k0, .ref k1, .ref k2, .ref k3, .int 0, .ref k5, .int 0, .int 0, .int 0, .int 0, .int 0, .int 0, .int 0, .int 0, .int 0, .int (-1), .int 0, .int 0, .int 0, .ref k19, .ref k20, .ref k21, .ref k22, .ref k23, .int 0, .ref k25, .ref k26, .ref k27, .int 0, .int 0, .ref k30, .ref k31, .int 0, .ref k33, .int 0, .int 0, .ref k36, .ref k37, .ref k38, .ref k39])] [(h0, eO 9 [.ref k0, .ref k1, .ref k2, .ref k3, .int 0, .ref k5, .int 0, .int 0, .int 0, .int 0, .int 0, .int 0, .int 0, .int 0, .int 0, .int (-1), .int 0, .int 0, .int 0, .ref k19, .ref k20, .ref k21, .ref k22, .ref k23, .int 0, .ref k25, .ref k26, .ref k27, .int 0, .int 0, .ref k30, .ref k31, .int 0, .ref k33, .int 0, .int 0, .ref k36, .ref k37, .ref k38, .ref k39])] [] [0] [] := ⟨rfl, rfl, rfl, rfl, by decide⟩
  refine cont_I C hP hD hS ct_6 (run_V (As := [.int 1]) (rest := []) C hP hD hS ct_6 (c_fails l D ty h0 k0 k1 k2 k3 k5 k19 k20 k21 k22 k23 k25 k26 k27 k30 k31 k33 k36 k37 k38 k39 (.int 0) (.int 0) (.int 0) (.int 0) (.int 0) (.int 0) (.int 0) (.int 0) (.int 0) (.int 0) (.int (-1)) (.int 0) (.int 0) (.int 0) (.int 0) (.int 0) (.int 0) (.int 0) (.int 0) (.int 0) 1) kV_PinchedBillModel_242 0 rfl rfl rfl rfl hl.1 rfl (nle rfl) d_X9_house_21 ⟨by decide, by decide, by decide, by decide⟩) (fun r_8 w_9 H locs hw_7 hP hD hS => ?_)
  obtain ⟨rfl, rfl⟩ := hw_7
  have hP : va_P D vwCl [(h0, eO 9 [.ref k0, .ref k1, .ref k2, .ref k3, .int 1, .ref k5, .int 0, .int 0, .int 0, .int 0, .int 0, .int 0, .int 0, .int 0, .int 0, .int (-1), .int 0, .int 0, .int 0, .ref k19, .ref k20, .ref k21, .ref k22, .ref k23, .int 0, .ref k25, .ref k26, .ref k27, .int 0, .int 0, .ref k30, .ref k31, .int 0, .ref k33, .int 0, .int 0, .ref k36, .ref k37, .ref k38, .ref k39])] H := hP
  have hD : va_D A [(h0, eO 9 [.ref k0, .ref k1, .ref k2, .ref k3, .int 1, .ref k5, .int 0, .int 0, .int 0, .int 0, .int 0, .int 0, .int 0, .int 0, .int 0, .int (-1), .int 0, .int 0, .int 0, .ref k19, .ref k20, .ref k21, .ref k22, .ref k23, .int 0, .ref k25, .ref k26, .ref k27, .int 0, .int 0, .ref k30, .ref k31, .int 0, .ref k33, .int 0, .int 0, .ref k36, .ref k37, .ref k38, .ref k39])] := hD
  exact ret_I (w := [(h0, eO 9 [.ref k0, .ref k1, .ref k2, .ref k3, .int 1, .ref k5, .int 0, .int 0, .int 0, .int 0, .int 0, .int 0, .int 0, .int 0, .int 0, .int (-1), .int 0, .int 0, .int 0, .ref k19, .ref k20, .ref k21, .ref k22, .ref k23, .int 0, .ref k25, .ref k26, .ref k27, .int 0, .int 0, .ref k30, .ref k31, .int 0, .ref k33, .int 0, .int 0, .ref k36, .ref k37, .ref k38, .ref k39])]) C hP hD hS [0] rfl rfl ⟨(.int 0), (.int 0), (.int 0), (.int 0), (.int 0), (.int 0), (.int 0), (.int 0), (.int 0), (.int (-1)), (.int 0), (.int 0), (.int 0), (.int 0), (.int 0), (.int 0), (.int 0), (.int 0), (.int 0), rfl, rfl⟩ (by decide) (by decide) d_X9_house_24

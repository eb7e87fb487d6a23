abbrev b_La_belt : ByteArray := method_3_code
abbrev n_La_belt : MethodName := ⟨"BeltRowsLaw", "belt", "(LBeltRows;II[J)I"⟩
theorem d_La_belt_0 : decode b_La_belt 0 = .ok (.aload_n 3, 1) := by decide +kernel
theorem d_La_belt_1 : decode b_La_belt 1 = .ok (.iconst 0, 1) := by decide +kernel
theorem d_La_belt_2 : decode b_La_belt 2 = .ok (.aload_n 0, 1) := by decide +kernel
theorem d_La_belt_3 : decode b_La_belt 3 = .ok (.iload_n 1, 1) := by decide +kernel
theorem d_La_belt_4 : decode b_La_belt 4 = .ok (.iload_n 2, 1) := by decide +kernel
theorem d_La_belt_5 : decode b_La_belt 5 = .ok (.invokevirtual 7, 3) := by decide +kernel
theorem d_La_belt_8 : decode b_La_belt 8 = .ok (.i2l, 1) := by decide +kernel
theorem d_La_belt_9 : decode b_La_belt 9 = .ok (.lastore, 1) := by decide +kernel
theorem d_La_belt_10 : decode b_La_belt 10 = .ok (.goto 11, 3) := by decide +kernel
theorem d_La_belt_13 : decode b_La_belt 13 = .ok (.astore 4, 2) := by decide +kernel
theorem d_La_belt_15 : decode b_La_belt 15 = .ok (.iconst 1, 1) := by decide +kernel
theorem d_La_belt_16 : decode b_La_belt 16 = .ok (.ireturn, 1) := by decide +kernel
theorem d_La_belt_17 : decode b_La_belt 17 = .ok (.astore 4, 2) := by decide +kernel
theorem d_La_belt_19 : decode b_La_belt 19 = .ok (.iconst 2, 1) := by decide +kernel
theorem d_La_belt_20 : decode b_La_belt 20 = .ok (.ireturn, 1) := by decide +kernel
theorem d_La_belt_21 : decode b_La_belt 21 = .ok (.iconst 0, 1) := by decide +kernel
theorem d_La_belt_22 : decode b_La_belt 22 = .ok (.ireturn, 1) := by decide +kernel
abbrev b_La_join : ByteArray := method_4_code
abbrev n_La_join : MethodName := ⟨"BeltRowsLaw", "join", "(LBeltRows;IIII[J)I"⟩
theorem d_La_join_0 : decode b_La_join 0 = .ok (.aload 5, 2) := by decide +kernel
theorem d_La_join_2 : decode b_La_join 2 = .ok (.iconst 0, 1) := by decide +kernel
theorem d_La_join_3 : decode b_La_join 3 = .ok (.aload_n 0, 1) := by decide +kernel
theorem d_La_join_4 : decode b_La_join 4 = .ok (.iload_n 1, 1) := by decide +kernel
theorem d_La_join_5 : decode b_La_join 5 = .ok (.iload_n 2, 1) := by decide +kernel
theorem d_La_join_6 : decode b_La_join 6 = .ok (.iload_n 3, 1) := by decide +kernel
theorem d_La_join_7 : decode b_La_join 7 = .ok (.iload 4, 2) := by decide +kernel
theorem d_La_join_9 : decode b_La_join 9 = .ok (.invokevirtual 17, 3) := by decide +kernel
theorem d_La_join_12 : decode b_La_join 12 = .ok (.i2l, 1) := by decide +kernel
theorem d_La_join_13 : decode b_La_join 13 = .ok (.lastore, 1) := by decide +kernel
theorem d_La_join_14 : decode b_La_join 14 = .ok (.goto 11, 3) := by decide +kernel
theorem d_La_join_17 : decode b_La_join 17 = .ok (.astore 6, 2) := by decide +kernel
theorem d_La_join_19 : decode b_La_join 19 = .ok (.iconst 1, 1) := by decide +kernel
theorem d_La_join_20 : decode b_La_join 20 = .ok (.ireturn, 1) := by decide +kernel
theorem d_La_join_21 : decode b_La_join 21 = .ok (.astore 6, 2) := by decide +kernel
theorem d_La_join_23 : decode b_La_join 23 = .ok (.iconst 2, 1) := by decide +kernel
theorem d_La_join_24 : decode b_La_join 24 = .ok (.ireturn, 1) := by decide +kernel
theorem d_La_join_25 : decode b_La_join 25 = .ok (.iconst 0, 1) := by decide +kernel
theorem d_La_join_26 : decode b_La_join 26 = .ok (.ireturn, 1) := by decide +kernel
abbrev b_La_run : ByteArray := method_5_code
abbrev n_La_run : MethodName := ⟨"BeltRowsLaw", "run", "(LBeltRows;IIZ)I"⟩
theorem d_La_run_0 : decode b_La_run 0 = .ok (.aload_n 0, 1) := by decide +kernel
theorem d_La_run_1 : decode b_La_run 1 = .ok (.iload_n 1, 1) := by decide +kernel
theorem d_La_run_2 : decode b_La_run 2 = .ok (.iload_n 2, 1) := by decide +kernel
theorem d_La_run_3 : decode b_La_run 3 = .ok (.iload_n 3, 1) := by decide +kernel
theorem d_La_run_4 : decode b_La_run 4 = .ok (.invokevirtual 23, 3) := by decide +kernel
theorem d_La_run_7 : decode b_La_run 7 = .ok (.goto 11, 3) := by decide +kernel
theorem d_La_run_10 : decode b_La_run 10 = .ok (.astore 4, 2) := by decide +kernel
theorem d_La_run_12 : decode b_La_run 12 = .ok (.iconst 1, 1) := by decide +kernel
theorem d_La_run_13 : decode b_La_run 13 = .ok (.ireturn, 1) := by decide +kernel
theorem d_La_run_14 : decode b_La_run 14 = .ok (.astore 4, 2) := by decide +kernel
theorem d_La_run_16 : decode b_La_run 16 = .ok (.iconst 2, 1) := by decide +kernel
theorem d_La_run_17 : decode b_La_run 17 = .ok (.ireturn, 1) := by decide +kernel
theorem d_La_run_18 : decode b_La_run 18 = .ok (.iconst 0, 1) := by decide +kernel
theorem d_La_run_19 : decode b_La_run 19 = .ok (.ireturn, 1) := by decide +kernel
abbrev b_La_gaps : ByteArray := method_6_code
abbrev n_La_gaps : MethodName := ⟨"BeltRowsLaw", "gaps", "(LBeltRows;I)I"⟩
theorem d_La_gaps_0 : decode b_La_gaps 0 = .ok (.aload_n 0, 1) := by decide +kernel
theorem d_La_gaps_1 : decode b_La_gaps 1 = .ok (.iload_n 1, 1) := by decide +kernel
theorem d_La_gaps_2 : decode b_La_gaps 2 = .ok (.invokevirtual 27, 3) := by decide +kernel
theorem d_La_gaps_5 : decode b_La_gaps 5 = .ok (.goto 6, 3) := by decide +kernel
theorem d_La_gaps_8 : decode b_La_gaps 8 = .ok (.astore_n 2, 1) := by decide +kernel
theorem d_La_gaps_9 : decode b_La_gaps 9 = .ok (.iconst 1, 1) := by decide +kernel
theorem d_La_gaps_10 : decode b_La_gaps 10 = .ok (.ireturn, 1) := by decide +kernel
theorem d_La_gaps_11 : decode b_La_gaps 11 = .ok (.iconst 0, 1) := by decide +kernel
theorem d_La_gaps_12 : decode b_La_gaps 12 = .ok (.ireturn, 1) := by decide +kernel
abbrev b_La_scanner : ByteArray := method_7_code
abbrev n_La_scanner : MethodName := ⟨"BeltRowsLaw", "scanner", "(LBeltRows;III[J)I"⟩
theorem d_La_scanner_0 : decode b_La_scanner 0 = .ok (.aload 4, 2) := by decide +kernel
theorem d_La_scanner_2 : decode b_La_scanner 2 = .ok (.iconst 0, 1) := by decide +kernel
theorem d_La_scanner_3 : decode b_La_scanner 3 = .ok (.aload_n 0, 1) := by decide +kernel
theorem d_La_scanner_4 : decode b_La_scanner 4 = .ok (.iload_n 1, 1) := by decide +kernel
theorem d_La_scanner_5 : decode b_La_scanner 5 = .ok (.iload_n 2, 1) := by decide +kernel
theorem d_La_scanner_6 : decode b_La_scanner 6 = .ok (.iload_n 3, 1) := by decide +kernel
theorem d_La_scanner_7 : decode b_La_scanner 7 = .ok (.invokevirtual 31, 3) := by decide +kernel
theorem d_La_scanner_10 : decode b_La_scanner 10 = .ok (.i2l, 1) := by decide +kernel
theorem d_La_scanner_11 : decode b_La_scanner 11 = .ok (.lastore, 1) := by decide +kernel
theorem d_La_scanner_12 : decode b_La_scanner 12 = .ok (.goto 15, 3) := by decide +kernel
theorem d_La_scanner_15 : decode b_La_scanner 15 = .ok (.astore 5, 2) := by decide +kernel
theorem d_La_scanner_17 : decode b_La_scanner 17 = .ok (.iconst 1, 1) := by decide +kernel
theorem d_La_scanner_18 : decode b_La_scanner 18 = .ok (.ireturn, 1) := by decide +kernel
theorem d_La_scanner_19 : decode b_La_scanner 19 = .ok (.astore 5, 2) := by decide +kernel
theorem d_La_scanner_21 : decode b_La_scanner 21 = .ok (.iconst 2, 1) := by decide +kernel
theorem d_La_scanner_22 : decode b_La_scanner 22 = .ok (.ireturn, 1) := by decide +kernel
theorem d_La_scanner_23 : decode b_La_scanner 23 = .ok (.astore 5, 2) := by decide +kernel
theorem d_La_scanner_25 : decode b_La_scanner 25 = .ok (.iconst 3, 1) := by decide +kernel
theorem d_La_scanner_26 : decode b_La_scanner 26 = .ok (.ireturn, 1) := by decide +kernel
theorem d_La_scanner_27 : decode b_La_scanner 27 = .ok (.iconst 0, 1) := by decide +kernel
theorem d_La_scanner_28 : decode b_La_scanner 28 = .ok (.ireturn, 1) := by decide +kernel
abbrev b_La_item : ByteArray := method_8_code
abbrev n_La_item : MethodName := ⟨"BeltRowsLaw", "item", "(LBeltRows;II[J)I"⟩
theorem d_La_item_0 : decode b_La_item 0 = .ok (.aload_n 3, 1) := by decide +kernel
theorem d_La_item_1 : decode b_La_item 1 = .ok (.iconst 0, 1) := by decide +kernel
theorem d_La_item_2 : decode b_La_item 2 = .ok (.aload_n 0, 1) := by decide +kernel
theorem d_La_item_3 : decode b_La_item 3 = .ok (.iload_n 1, 1) := by decide +kernel
theorem d_La_item_4 : decode b_La_item 4 = .ok (.iload_n 2, 1) := by decide +kernel
theorem d_La_item_5 : decode b_La_item 5 = .ok (.invokevirtual 35, 3) := by decide +kernel
theorem d_La_item_8 : decode b_La_item 8 = .ok (.i2l, 1) := by decide +kernel
theorem d_La_item_9 : decode b_La_item 9 = .ok (.lastore, 1) := by decide +kernel
theorem d_La_item_10 : decode b_La_item 10 = .ok (.goto 15, 3) := by decide +kernel
theorem d_La_item_13 : decode b_La_item 13 = .ok (.astore 4, 2) := by decide +kernel
theorem d_La_item_15 : decode b_La_item 15 = .ok (.iconst 1, 1) := by decide +kernel
theorem d_La_item_16 : decode b_La_item 16 = .ok (.ireturn, 1) := by decide +kernel
theorem d_La_item_17 : decode b_La_item 17 = .ok (.astore 4, 2) := by decide +kernel
theorem d_La_item_19 : decode b_La_item 19 = .ok (.iconst 2, 1) := by decide +kernel
theorem d_La_item_20 : decode b_La_item 20 = .ok (.ireturn, 1) := by decide +kernel
theorem d_La_item_21 : decode b_La_item 21 = .ok (.astore 4, 2) := by decide +kernel
theorem d_La_item_23 : decode b_La_item 23 = .ok (.iconst 3, 1) := by decide +kernel
theorem d_La_item_24 : decode b_La_item 24 = .ok (.ireturn, 1) := by decide +kernel
theorem d_La_item_25 : decode b_La_item 25 = .ok (.iconst 0, 1) := by decide +kernel
theorem d_La_item_26 : decode b_La_item 26 = .ok (.ireturn, 1) := by decide +kernel
abbrev b_La_divert : ByteArray := method_9_code
abbrev n_La_divert : MethodName := ⟨"BeltRowsLaw", "divert", "(LBeltRows;II[J)I"⟩
theorem d_La_divert_0 : decode b_La_divert 0 = .ok (.aload_n 3, 1) := by decide +kernel
theorem d_La_divert_1 : decode b_La_divert 1 = .ok (.iconst 0, 1) := by decide +kernel
theorem d_La_divert_2 : decode b_La_divert 2 = .ok (.aload_n 0, 1) := by decide +kernel
theorem d_La_divert_3 : decode b_La_divert 3 = .ok (.iload_n 1, 1) := by decide +kernel
theorem d_La_divert_4 : decode b_La_divert 4 = .ok (.iload_n 2, 1) := by decide +kernel
theorem d_La_divert_5 : decode b_La_divert 5 = .ok (.invokevirtual 38, 3) := by decide +kernel
theorem d_La_divert_8 : decode b_La_divert 8 = .ok (.i2l, 1) := by decide +kernel
theorem d_La_divert_9 : decode b_La_divert 9 = .ok (.lastore, 1) := by decide +kernel
theorem d_La_divert_10 : decode b_La_divert 10 = .ok (.goto 15, 3) := by decide +kernel
theorem d_La_divert_13 : decode b_La_divert 13 = .ok (.astore 4, 2) := by decide +kernel
theorem d_La_divert_15 : decode b_La_divert 15 = .ok (.iconst 1, 1) := by decide +kernel
theorem d_La_divert_16 : decode b_La_divert 16 = .ok (.ireturn, 1) := by decide +kernel
theorem d_La_divert_17 : decode b_La_divert 17 = .ok (.astore 4, 2) := by decide +kernel
theorem d_La_divert_19 : decode b_La_divert 19 = .ok (.iconst 2, 1) := by decide +kernel
theorem d_La_divert_20 : decode b_La_divert 20 = .ok (.ireturn, 1) := by decide +kernel
theorem d_La_divert_21 : decode b_La_divert 21 = .ok (.astore 4, 2) := by decide +kernel
theorem d_La_divert_23 : decode b_La_divert 23 = .ok (.iconst 3, 1) := by decide +kernel
theorem d_La_divert_24 : decode b_La_divert 24 = .ok (.ireturn, 1) := by decide +kernel
theorem d_La_divert_25 : decode b_La_divert 25 = .ok (.iconst 0, 1) := by decide +kernel
theorem d_La_divert_26 : decode b_La_divert 26 = .ok (.ireturn, 1) := by decide +kernel
abbrev b_La_step : ByteArray := method_10_code
abbrev n_La_step : MethodName := ⟨"BeltRowsLaw", "step", "(LBeltRows;I[J)I"⟩
theorem d_La_step_0 : decode b_La_step 0 = .ok (.aload_n 2, 1) := by decide +kernel
theorem d_La_step_1 : decode b_La_step 1 = .ok (.iconst 0, 1) := by decide +kernel
theorem d_La_step_2 : decode b_La_step 2 = .ok (.aload_n 0, 1) := by decide +kernel
theorem d_La_step_3 : decode b_La_step 3 = .ok (.iload_n 1, 1) := by decide +kernel
theorem d_La_step_4 : decode b_La_step 4 = .ok (.invokevirtual 43, 3) := by decide +kernel
theorem d_La_step_7 : decode b_La_step 7 = .ok (.i2l, 1) := by decide +kernel
theorem d_La_step_8 : decode b_La_step 8 = .ok (.lastore, 1) := by decide +kernel
theorem d_La_step_9 : decode b_La_step 9 = .ok (.goto 6, 3) := by decide +kernel
theorem d_La_step_12 : decode b_La_step 12 = .ok (.astore_n 3, 1) := by decide +kernel
theorem d_La_step_13 : decode b_La_step 13 = .ok (.iconst 1, 1) := by decide +kernel
theorem d_La_step_14 : decode b_La_step 14 = .ok (.ireturn, 1) := by decide +kernel
theorem d_La_step_15 : decode b_La_step 15 = .ok (.iconst 0, 1) := by decide +kernel
theorem d_La_step_16 : decode b_La_step 16 = .ok (.ireturn, 1) := by decide +kernel
abbrev b_La_edge : ByteArray := method_11_code
abbrev n_La_edge : MethodName := ⟨"BeltRowsLaw", "edge", "(LBeltRows;II[J)I"⟩
theorem d_La_edge_0 : decode b_La_edge 0 = .ok (.aload_n 3, 1) := by decide +kernel
theorem d_La_edge_1 : decode b_La_edge 1 = .ok (.iconst 0, 1) := by decide +kernel
theorem d_La_edge_2 : decode b_La_edge 2 = .ok (.aload_n 0, 1) := by decide +kernel
theorem d_La_edge_3 : decode b_La_edge 3 = .ok (.iload_n 1, 1) := by decide +kernel
theorem d_La_edge_4 : decode b_La_edge 4 = .ok (.iload_n 2, 1) := by decide +kernel
theorem d_La_edge_5 : decode b_La_edge 5 = .ok (.invokevirtual 47, 3) := by decide +kernel
theorem d_La_edge_8 : decode b_La_edge 8 = .ok (.i2l, 1) := by decide +kernel
theorem d_La_edge_9 : decode b_La_edge 9 = .ok (.lastore, 1) := by decide +kernel
theorem d_La_edge_10 : decode b_La_edge 10 = .ok (.goto 11, 3) := by decide +kernel
theorem d_La_edge_13 : decode b_La_edge 13 = .ok (.astore 4, 2) := by decide +kernel
theorem d_La_edge_15 : decode b_La_edge 15 = .ok (.iconst 1, 1) := by decide +kernel
theorem d_La_edge_16 : decode b_La_edge 16 = .ok (.ireturn, 1) := by decide +kernel
theorem d_La_edge_17 : decode b_La_edge 17 = .ok (.astore 4, 2) := by decide +kernel
theorem d_La_edge_19 : decode b_La_edge 19 = .ok (.iconst 2, 1) := by decide +kernel
theorem d_La_edge_20 : decode b_La_edge 20 = .ok (.ireturn, 1) := by decide +kernel
theorem d_La_edge_21 : decode b_La_edge 21 = .ok (.iconst 0, 1) := by decide +kernel
theorem d_La_edge_22 : decode b_La_edge 22 = .ok (.ireturn, 1) := by decide +kernel
abbrev b_La_slip : ByteArray := method_12_code
abbrev n_La_slip : MethodName := ⟨"BeltRowsLaw", "slip", "(LBeltRows;II[J)I"⟩
theorem d_La_slip_0 : decode b_La_slip 0 = .ok (.aload_n 3, 1) := by decide +kernel
theorem d_La_slip_1 : decode b_La_slip 1 = .ok (.iconst 0, 1) := by decide +kernel
theorem d_La_slip_2 : decode b_La_slip 2 = .ok (.aload_n 0, 1) := by decide +kernel
theorem d_La_slip_3 : decode b_La_slip 3 = .ok (.iload_n 1, 1) := by decide +kernel
theorem d_La_slip_4 : decode b_La_slip 4 = .ok (.iload_n 2, 1) := by decide +kernel
theorem d_La_slip_5 : decode b_La_slip 5 = .ok (.invokevirtual 50, 3) := by decide +kernel
theorem d_La_slip_8 : decode b_La_slip 8 = .ok (.i2l, 1) := by decide +kernel
theorem d_La_slip_9 : decode b_La_slip 9 = .ok (.lastore, 1) := by decide +kernel
theorem d_La_slip_10 : decode b_La_slip 10 = .ok (.goto 15, 3) := by decide +kernel
theorem d_La_slip_13 : decode b_La_slip 13 = .ok (.astore 4, 2) := by decide +kernel
theorem d_La_slip_15 : decode b_La_slip 15 = .ok (.iconst 1, 1) := by decide +kernel
theorem d_La_slip_16 : decode b_La_slip 16 = .ok (.ireturn, 1) := by decide +kernel
theorem d_La_slip_17 : decode b_La_slip 17 = .ok (.astore 4, 2) := by decide +kernel
theorem d_La_slip_19 : decode b_La_slip 19 = .ok (.iconst 2, 1) := by decide +kernel
theorem d_La_slip_20 : decode b_La_slip 20 = .ok (.ireturn, 1) := by decide +kernel
theorem d_La_slip_21 : decode b_La_slip 21 = .ok (.astore 4, 2) := by decide +kernel
theorem d_La_slip_23 : decode b_La_slip 23 = .ok (.iconst 3, 1) := by decide +kernel
theorem d_La_slip_24 : decode b_La_slip 24 = .ok (.ireturn, 1) := by decide +kernel
theorem d_La_slip_25 : decode b_La_slip 25 = .ok (.iconst 0, 1) := by decide +kernel
theorem d_La_slip_26 : decode b_La_slip 26 = .ok (.ireturn, 1) := by decide +kernel
abbrev b_La_take : ByteArray := method_13_code
abbrev n_La_take : MethodName := ⟨"BeltRowsLaw", "take", "(LBeltRows;I)I"⟩
theorem d_La_take_0 : decode b_La_take 0 = .ok (.aload_n 0, 1) := by decide +kernel
theorem d_La_take_1 : decode b_La_take 1 = .ok (.iload_n 1, 1) := by decide +kernel
theorem d_La_take_2 : decode b_La_take 2 = .ok (.invokevirtual 53, 3) := by decide +kernel
theorem d_La_take_5 : decode b_La_take 5 = .ok (.goto 9, 3) := by decide +kernel
theorem d_La_take_8 : decode b_La_take 8 = .ok (.astore_n 2, 1) := by decide +kernel
theorem d_La_take_9 : decode b_La_take 9 = .ok (.iconst 1, 1) := by decide +kernel
theorem d_La_take_10 : decode b_La_take 10 = .ok (.ireturn, 1) := by decide +kernel
theorem d_La_take_11 : decode b_La_take 11 = .ok (.astore_n 2, 1) := by decide +kernel
theorem d_La_take_12 : decode b_La_take 12 = .ok (.iconst 2, 1) := by decide +kernel
theorem d_La_take_13 : decode b_La_take 13 = .ok (.ireturn, 1) := by decide +kernel
theorem d_La_take_14 : decode b_La_take 14 = .ok (.iconst 0, 1) := by decide +kernel
theorem d_La_take_15 : decode b_La_take 15 = .ok (.ireturn, 1) := by decide +kernel
abbrev b_La_clean : ByteArray := method_14_code
abbrev n_La_clean : MethodName := ⟨"BeltRowsLaw", "clean", "(LBeltRows;I[J)I"⟩
theorem d_La_clean_0 : decode b_La_clean 0 = .ok (.aload_n 2, 1) := by decide +kernel
theorem d_La_clean_1 : decode b_La_clean 1 = .ok (.iconst 0, 1) := by decide +kernel
theorem d_La_clean_2 : decode b_La_clean 2 = .ok (.aload_n 0, 1) := by decide +kernel
theorem d_La_clean_3 : decode b_La_clean 3 = .ok (.iload_n 1, 1) := by decide +kernel
theorem d_La_clean_4 : decode b_La_clean 4 = .ok (.invokevirtual 56, 3) := by decide +kernel
theorem d_La_clean_7 : decode b_La_clean 7 = .ok (.i2l, 1) := by decide +kernel
theorem d_La_clean_8 : decode b_La_clean 8 = .ok (.lastore, 1) := by decide +kernel
theorem d_La_clean_9 : decode b_La_clean 9 = .ok (.goto 9, 3) := by decide +kernel
theorem d_La_clean_12 : decode b_La_clean 12 = .ok (.astore_n 3, 1) := by decide +kernel
theorem d_La_clean_13 : decode b_La_clean 13 = .ok (.iconst 1, 1) := by decide +kernel
theorem d_La_clean_14 : decode b_La_clean 14 = .ok (.ireturn, 1) := by decide +kernel
theorem d_La_clean_15 : decode b_La_clean 15 = .ok (.astore_n 3, 1) := by decide +kernel
theorem d_La_clean_16 : decode b_La_clean 16 = .ok (.iconst 2, 1) := by decide +kernel
theorem d_La_clean_17 : decode b_La_clean 17 = .ok (.ireturn, 1) := by decide +kernel
theorem d_La_clean_18 : decode b_La_clean 18 = .ok (.iconst 0, 1) := by decide +kernel
theorem d_La_clean_19 : decode b_La_clean 19 = .ok (.ireturn, 1) := by decide +kernel
abbrev b_La_gap : ByteArray := method_15_code
abbrev n_La_gap : MethodName := ⟨"BeltRowsLaw", "gap", "(LBeltRows;II[J)I"⟩
theorem d_La_gap_0 : decode b_La_gap 0 = .ok (.aload_n 3, 1) := by decide +kernel
theorem d_La_gap_1 : decode b_La_gap 1 = .ok (.iconst 0, 1) := by decide +kernel
theorem d_La_gap_2 : decode b_La_gap 2 = .ok (.aload_n 0, 1) := by decide +kernel
theorem d_La_gap_3 : decode b_La_gap 3 = .ok (.iload_n 1, 1) := by decide +kernel
theorem d_La_gap_4 : decode b_La_gap 4 = .ok (.iload_n 2, 1) := by decide +kernel
theorem d_La_gap_5 : decode b_La_gap 5 = .ok (.invokevirtual 59, 3) := by decide +kernel
theorem d_La_gap_8 : decode b_La_gap 8 = .ok (.i2l, 1) := by decide +kernel
theorem d_La_gap_9 : decode b_La_gap 9 = .ok (.lastore, 1) := by decide +kernel
theorem d_La_gap_10 : decode b_La_gap 10 = .ok (.goto 11, 3) := by decide +kernel
theorem d_La_gap_13 : decode b_La_gap 13 = .ok (.astore 4, 2) := by decide +kernel
theorem d_La_gap_15 : decode b_La_gap 15 = .ok (.iconst 1, 1) := by decide +kernel
theorem d_La_gap_16 : decode b_La_gap 16 = .ok (.ireturn, 1) := by decide +kernel
theorem d_La_gap_17 : decode b_La_gap 17 = .ok (.astore 4, 2) := by decide +kernel
theorem d_La_gap_19 : decode b_La_gap 19 = .ok (.iconst 2, 1) := by decide +kernel
theorem d_La_gap_20 : decode b_La_gap 20 = .ok (.ireturn, 1) := by decide +kernel
theorem d_La_gap_21 : decode b_La_gap 21 = .ok (.iconst 0, 1) := by decide +kernel
theorem d_La_gap_22 : decode b_La_gap 22 = .ok (.ireturn, 1) := by decide +kernel
abbrev b_La_told : ByteArray := method_16_code
abbrev n_La_told : MethodName := ⟨"BeltRowsLaw", "told", "(LBeltRows;II[J)I"⟩
theorem d_La_told_0 : decode b_La_told 0 = .ok (.aload_n 3, 1) := by decide +kernel
theorem d_La_told_1 : decode b_La_told 1 = .ok (.iconst 0, 1) := by decide +kernel
theorem d_La_told_2 : decode b_La_told 2 = .ok (.aload_n 0, 1) := by decide +kernel
theorem d_La_told_3 : decode b_La_told 3 = .ok (.iload_n 1, 1) := by decide +kernel
theorem d_La_told_4 : decode b_La_told 4 = .ok (.iload_n 2, 1) := by decide +kernel
theorem d_La_told_5 : decode b_La_told 5 = .ok (.invokevirtual 62, 3) := by decide +kernel
theorem d_La_told_8 : decode b_La_told 8 = .ok (.i2l, 1) := by decide +kernel
theorem d_La_told_9 : decode b_La_told 9 = .ok (.lastore, 1) := by decide +kernel
theorem d_La_told_10 : decode b_La_told 10 = .ok (.goto 11, 3) := by decide +kernel
theorem d_La_told_13 : decode b_La_told 13 = .ok (.astore 4, 2) := by decide +kernel
theorem d_La_told_15 : decode b_La_told 15 = .ok (.iconst 1, 1) := by decide +kernel
theorem d_La_told_16 : decode b_La_told 16 = .ok (.ireturn, 1) := by decide +kernel
theorem d_La_told_17 : decode b_La_told 17 = .ok (.astore 4, 2) := by decide +kernel
theorem d_La_told_19 : decode b_La_told 19 = .ok (.iconst 2, 1) := by decide +kernel
theorem d_La_told_20 : decode b_La_told 20 = .ok (.ireturn, 1) := by decide +kernel
theorem d_La_told_21 : decode b_La_told 21 = .ok (.iconst 0, 1) := by decide +kernel
theorem d_La_told_22 : decode b_La_told 22 = .ok (.ireturn, 1) := by decide +kernel
abbrev b_La_known : ByteArray := method_17_code
abbrev n_La_known : MethodName := ⟨"BeltRowsLaw", "known", "(LBeltRows;II[J)I"⟩
theorem d_La_known_0 : decode b_La_known 0 = .ok (.aload_n 3, 1) := by decide +kernel
theorem d_La_known_1 : decode b_La_known 1 = .ok (.iconst 0, 1) := by decide +kernel
theorem d_La_known_2 : decode b_La_known 2 = .ok (.aload_n 0, 1) := by decide +kernel
theorem d_La_known_3 : decode b_La_known 3 = .ok (.iload_n 1, 1) := by decide +kernel
theorem d_La_known_4 : decode b_La_known 4 = .ok (.iload_n 2, 1) := by decide +kernel
theorem d_La_known_5 : decode b_La_known 5 = .ok (.invokevirtual 65, 3) := by decide +kernel
theorem d_La_known_8 : decode b_La_known 8 = .ok (.i2l, 1) := by decide +kernel
theorem d_La_known_9 : decode b_La_known 9 = .ok (.lastore, 1) := by decide +kernel
theorem d_La_known_10 : decode b_La_known 10 = .ok (.goto 11, 3) := by decide +kernel
theorem d_La_known_13 : decode b_La_known 13 = .ok (.astore 4, 2) := by decide +kernel
theorem d_La_known_15 : decode b_La_known 15 = .ok (.iconst 1, 1) := by decide +kernel
theorem d_La_known_16 : decode b_La_known 16 = .ok (.ireturn, 1) := by decide +kernel
theorem d_La_known_17 : decode b_La_known 17 = .ok (.astore 4, 2) := by decide +kernel
theorem d_La_known_19 : decode b_La_known 19 = .ok (.iconst 2, 1) := by decide +kernel
theorem d_La_known_20 : decode b_La_known 20 = .ok (.ireturn, 1) := by decide +kernel
theorem d_La_known_21 : decode b_La_known 21 = .ok (.iconst 0, 1) := by decide +kernel
theorem d_La_known_22 : decode b_La_known 22 = .ok (.ireturn, 1) := by decide +kernel
abbrev b_La_order : ByteArray := method_18_code
abbrev n_La_order : MethodName := ⟨"BeltRowsLaw", "order", "(LBeltRows;I[J)I"⟩
theorem d_La_order_0 : decode b_La_order 0 = .ok (.aload_n 2, 1) := by decide +kernel
theorem d_La_order_1 : decode b_La_order 1 = .ok (.iconst 0, 1) := by decide +kernel
theorem d_La_order_2 : decode b_La_order 2 = .ok (.aload_n 0, 1) := by decide +kernel
theorem d_La_order_3 : decode b_La_order 3 = .ok (.iload_n 1, 1) := by decide +kernel
theorem d_La_order_4 : decode b_La_order 4 = .ok (.invokevirtual 68, 3) := by decide +kernel
theorem d_La_order_7 : decode b_La_order 7 = .ok (.i2l, 1) := by decide +kernel
theorem d_La_order_8 : decode b_La_order 8 = .ok (.lastore, 1) := by decide +kernel
theorem d_La_order_9 : decode b_La_order 9 = .ok (.goto 6, 3) := by decide +kernel
theorem d_La_order_12 : decode b_La_order 12 = .ok (.astore_n 3, 1) := by decide +kernel
theorem d_La_order_13 : decode b_La_order 13 = .ok (.iconst 1, 1) := by decide +kernel
theorem d_La_order_14 : decode b_La_order 14 = .ok (.ireturn, 1) := by decide +kernel
theorem d_La_order_15 : decode b_La_order 15 = .ok (.iconst 0, 1) := by decide +kernel
theorem d_La_order_16 : decode b_La_order 16 = .ok (.ireturn, 1) := by decide +kernel
abbrev b_La_mean : ByteArray := method_19_code
abbrev n_La_mean : MethodName := ⟨"BeltRowsLaw", "mean", "(LBeltRows;[J)I"⟩
theorem d_La_mean_0 : decode b_La_mean 0 = .ok (.aload_n 1, 1) := by decide +kernel
theorem d_La_mean_1 : decode b_La_mean 1 = .ok (.iconst 0, 1) := by decide +kernel
theorem d_La_mean_2 : decode b_La_mean 2 = .ok (.aload_n 0, 1) := by decide +kernel
theorem d_La_mean_3 : decode b_La_mean 3 = .ok (.invokevirtual 71, 3) := by decide +kernel
theorem d_La_mean_6 : decode b_La_mean 6 = .ok (.i2l, 1) := by decide +kernel
theorem d_La_mean_7 : decode b_La_mean 7 = .ok (.lastore, 1) := by decide +kernel
theorem d_La_mean_8 : decode b_La_mean 8 = .ok (.goto 6, 3) := by decide +kernel
theorem d_La_mean_11 : decode b_La_mean 11 = .ok (.astore_n 2, 1) := by decide +kernel
theorem d_La_mean_12 : decode b_La_mean 12 = .ok (.iconst 1, 1) := by decide +kernel
theorem d_La_mean_13 : decode b_La_mean 13 = .ok (.ireturn, 1) := by decide +kernel
theorem d_La_mean_14 : decode b_La_mean 14 = .ok (.iconst 0, 1) := by decide +kernel
theorem d_La_mean_15 : decode b_La_mean 15 = .ok (.ireturn, 1) := by decide +kernel

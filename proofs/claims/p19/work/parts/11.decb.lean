abbrev b_Br_init : ByteArray := prog_1_method_1_code
abbrev n_Br_init : MethodName := ⟨"BeltRows", "<init>", "()V"⟩
theorem d_Br_init_0 : decode b_Br_init 0 = .ok (.aload_n 0, 1) := by decide +kernel
theorem d_Br_init_1 : decode b_Br_init 1 = .ok (.invokespecial 1, 3) := by decide +kernel
theorem d_Br_init_4 : decode b_Br_init 4 = .ok (.aload_n 0, 1) := by decide +kernel
theorem d_Br_init_5 : decode b_Br_init 5 = .ok (.new 7, 3) := by decide +kernel
theorem d_Br_init_8 : decode b_Br_init 8 = .ok (.dup, 1) := by decide +kernel
theorem d_Br_init_9 : decode b_Br_init 9 = .ok (.invokespecial 9, 3) := by decide +kernel
theorem d_Br_init_12 : decode b_Br_init 12 = .ok (.putfield 10, 3) := by decide +kernel
theorem d_Br_init_15 : decode b_Br_init 15 = .ok (.aload_n 0, 1) := by decide +kernel
theorem d_Br_init_16 : decode b_Br_init 16 = .ok (.new 7, 3) := by decide +kernel
theorem d_Br_init_19 : decode b_Br_init 19 = .ok (.dup, 1) := by decide +kernel
theorem d_Br_init_20 : decode b_Br_init 20 = .ok (.invokespecial 9, 3) := by decide +kernel
theorem d_Br_init_23 : decode b_Br_init 23 = .ok (.putfield 16, 3) := by decide +kernel
theorem d_Br_init_26 : decode b_Br_init 26 = .ok (.aload_n 0, 1) := by decide +kernel
theorem d_Br_init_27 : decode b_Br_init 27 = .ok (.new 7, 3) := by decide +kernel
theorem d_Br_init_30 : decode b_Br_init 30 = .ok (.dup, 1) := by decide +kernel
theorem d_Br_init_31 : decode b_Br_init 31 = .ok (.invokespecial 9, 3) := by decide +kernel
theorem d_Br_init_34 : decode b_Br_init 34 = .ok (.putfield 19, 3) := by decide +kernel
theorem d_Br_init_37 : decode b_Br_init 37 = .ok (.aload_n 0, 1) := by decide +kernel
theorem d_Br_init_38 : decode b_Br_init 38 = .ok (.new 7, 3) := by decide +kernel
theorem d_Br_init_41 : decode b_Br_init 41 = .ok (.dup, 1) := by decide +kernel
theorem d_Br_init_42 : decode b_Br_init 42 = .ok (.invokespecial 9, 3) := by decide +kernel
theorem d_Br_init_45 : decode b_Br_init 45 = .ok (.putfield 22, 3) := by decide +kernel
theorem d_Br_init_48 : decode b_Br_init 48 = .ok (.aload_n 0, 1) := by decide +kernel
theorem d_Br_init_49 : decode b_Br_init 49 = .ok (.new 7, 3) := by decide +kernel
theorem d_Br_init_52 : decode b_Br_init 52 = .ok (.dup, 1) := by decide +kernel
theorem d_Br_init_53 : decode b_Br_init 53 = .ok (.invokespecial 9, 3) := by decide +kernel
theorem d_Br_init_56 : decode b_Br_init 56 = .ok (.putfield 25, 3) := by decide +kernel
theorem d_Br_init_59 : decode b_Br_init 59 = .ok (.aload_n 0, 1) := by decide +kernel
theorem d_Br_init_60 : decode b_Br_init 60 = .ok (.new 7, 3) := by decide +kernel
theorem d_Br_init_63 : decode b_Br_init 63 = .ok (.dup, 1) := by decide +kernel
theorem d_Br_init_64 : decode b_Br_init 64 = .ok (.invokespecial 9, 3) := by decide +kernel
theorem d_Br_init_67 : decode b_Br_init 67 = .ok (.putfield 28, 3) := by decide +kernel
theorem d_Br_init_70 : decode b_Br_init 70 = .ok (.aload_n 0, 1) := by decide +kernel
theorem d_Br_init_71 : decode b_Br_init 71 = .ok (.bipush 100, 2) := by decide +kernel
theorem d_Br_init_73 : decode b_Br_init 73 = .ok (.putfield 31, 3) := by decide +kernel
theorem d_Br_init_76 : decode b_Br_init 76 = .ok (.aload_n 0, 1) := by decide +kernel
theorem d_Br_init_77 : decode b_Br_init 77 = .ok (.iconst 0, 1) := by decide +kernel
theorem d_Br_init_78 : decode b_Br_init 78 = .ok (.putfield 35, 3) := by decide +kernel
theorem d_Br_init_81 : decode b_Br_init 81 = .ok (.aload_n 0, 1) := by decide +kernel
theorem d_Br_init_82 : decode b_Br_init 82 = .ok (.iconst 0, 1) := by decide +kernel
theorem d_Br_init_83 : decode b_Br_init 83 = .ok (.putfield 38, 3) := by decide +kernel
theorem d_Br_init_86 : decode b_Br_init 86 = .ok (.return_, 1) := by decide +kernel
abbrev b_Br_count : ByteArray := prog_1_method_19_code
abbrev n_Br_count : MethodName := ⟨"BeltRows", "count", "(I)I"⟩
theorem d_Br_count_0 : decode b_Br_count 0 = .ok (.iload_n 1, 1) := by decide +kernel
theorem d_Br_count_1 : decode b_Br_count 1 = .ok (.tableswitch 105 0 7 #[47, 55, 63, 68, 76, 84, 89, 97], 47) := by decide +kernel
theorem d_Br_count_48 : decode b_Br_count 48 = .ok (.aload_n 0, 1) := by decide +kernel
theorem d_Br_count_49 : decode b_Br_count 49 = .ok (.getfield 10, 3) := by decide +kernel
theorem d_Br_count_52 : decode b_Br_count 52 = .ok (.invokevirtual 45, 3) := by decide +kernel
theorem d_Br_count_55 : decode b_Br_count 55 = .ok (.ireturn, 1) := by decide +kernel
theorem d_Br_count_56 : decode b_Br_count 56 = .ok (.aload_n 0, 1) := by decide +kernel
theorem d_Br_count_57 : decode b_Br_count 57 = .ok (.getfield 16, 3) := by decide +kernel
theorem d_Br_count_60 : decode b_Br_count 60 = .ok (.invokevirtual 45, 3) := by decide +kernel
theorem d_Br_count_63 : decode b_Br_count 63 = .ok (.ireturn, 1) := by decide +kernel
theorem d_Br_count_64 : decode b_Br_count 64 = .ok (.aload_n 0, 1) := by decide +kernel
theorem d_Br_count_65 : decode b_Br_count 65 = .ok (.invokevirtual 222, 3) := by decide +kernel
theorem d_Br_count_68 : decode b_Br_count 68 = .ok (.ireturn, 1) := by decide +kernel
theorem d_Br_count_69 : decode b_Br_count 69 = .ok (.aload_n 0, 1) := by decide +kernel
theorem d_Br_count_70 : decode b_Br_count 70 = .ok (.getfield 28, 3) := by decide +kernel
theorem d_Br_count_73 : decode b_Br_count 73 = .ok (.invokevirtual 45, 3) := by decide +kernel
theorem d_Br_count_76 : decode b_Br_count 76 = .ok (.ireturn, 1) := by decide +kernel
theorem d_Br_count_77 : decode b_Br_count 77 = .ok (.aload_n 0, 1) := by decide +kernel
theorem d_Br_count_78 : decode b_Br_count 78 = .ok (.getfield 22, 3) := by decide +kernel
theorem d_Br_count_81 : decode b_Br_count 81 = .ok (.invokevirtual 45, 3) := by decide +kernel
theorem d_Br_count_84 : decode b_Br_count 84 = .ok (.ireturn, 1) := by decide +kernel
theorem d_Br_count_85 : decode b_Br_count 85 = .ok (.aload_n 0, 1) := by decide +kernel
theorem d_Br_count_86 : decode b_Br_count 86 = .ok (.getfield 35, 3) := by decide +kernel
theorem d_Br_count_89 : decode b_Br_count 89 = .ok (.ireturn, 1) := by decide +kernel
theorem d_Br_count_90 : decode b_Br_count 90 = .ok (.aload_n 0, 1) := by decide +kernel
theorem d_Br_count_91 : decode b_Br_count 91 = .ok (.getfield 19, 3) := by decide +kernel
theorem d_Br_count_94 : decode b_Br_count 94 = .ok (.invokevirtual 45, 3) := by decide +kernel
theorem d_Br_count_97 : decode b_Br_count 97 = .ok (.ireturn, 1) := by decide +kernel
theorem d_Br_count_98 : decode b_Br_count 98 = .ok (.aload_n 0, 1) := by decide +kernel
theorem d_Br_count_99 : decode b_Br_count 99 = .ok (.getfield 25, 3) := by decide +kernel
theorem d_Br_count_102 : decode b_Br_count 102 = .ok (.invokevirtual 45, 3) := by decide +kernel
theorem d_Br_count_105 : decode b_Br_count 105 = .ok (.ireturn, 1) := by decide +kernel
theorem d_Br_count_106 : decode b_Br_count 106 = .ok (.iconst (-1), 1) := by decide +kernel
theorem d_Br_count_107 : decode b_Br_count 107 = .ok (.ireturn, 1) := by decide +kernel
abbrev b_Br_itemsOnBelts : ByteArray := prog_1_method_25_code
abbrev n_Br_itemsOnBelts : MethodName := ⟨"BeltRows", "itemsOnBelts", "()I"⟩
theorem d_Br_itemsOnBelts_0 : decode b_Br_itemsOnBelts 0 = .ok (.iconst 0, 1) := by decide +kernel
theorem d_Br_itemsOnBelts_1 : decode b_Br_itemsOnBelts 1 = .ok (.istore_n 1, 1) := by decide +kernel
theorem d_Br_itemsOnBelts_2 : decode b_Br_itemsOnBelts 2 = .ok (.iconst 0, 1) := by decide +kernel
theorem d_Br_itemsOnBelts_3 : decode b_Br_itemsOnBelts 3 = .ok (.istore_n 2, 1) := by decide +kernel
theorem d_Br_itemsOnBelts_4 : decode b_Br_itemsOnBelts 4 = .ok (.iload_n 2, 1) := by decide +kernel
theorem d_Br_itemsOnBelts_5 : decode b_Br_itemsOnBelts 5 = .ok (.aload_n 0, 1) := by decide +kernel
theorem d_Br_itemsOnBelts_6 : decode b_Br_itemsOnBelts 6 = .ok (.getfield 10, 3) := by decide +kernel
theorem d_Br_itemsOnBelts_9 : decode b_Br_itemsOnBelts 9 = .ok (.invokevirtual 45, 3) := by decide +kernel
theorem d_Br_itemsOnBelts_12 : decode b_Br_itemsOnBelts 12 = .ok (.if_icmp .ge 26, 3) := by decide +kernel
theorem d_Br_itemsOnBelts_15 : decode b_Br_itemsOnBelts 15 = .ok (.iload_n 1, 1) := by decide +kernel
theorem d_Br_itemsOnBelts_16 : decode b_Br_itemsOnBelts 16 = .ok (.aload_n 0, 1) := by decide +kernel
theorem d_Br_itemsOnBelts_17 : decode b_Br_itemsOnBelts 17 = .ok (.getfield 10, 3) := by decide +kernel
theorem d_Br_itemsOnBelts_20 : decode b_Br_itemsOnBelts 20 = .ok (.iload_n 2, 1) := by decide +kernel
theorem d_Br_itemsOnBelts_21 : decode b_Br_itemsOnBelts 21 = .ok (.invokevirtual 140, 3) := by decide +kernel
theorem d_Br_itemsOnBelts_24 : decode b_Br_itemsOnBelts 24 = .ok (.checkcast 56, 3) := by decide +kernel
theorem d_Br_itemsOnBelts_27 : decode b_Br_itemsOnBelts 27 = .ok (.getfield 183, 3) := by decide +kernel
theorem d_Br_itemsOnBelts_30 : decode b_Br_itemsOnBelts 30 = .ok (.iadd, 1) := by decide +kernel
theorem d_Br_itemsOnBelts_31 : decode b_Br_itemsOnBelts 31 = .ok (.istore_n 1, 1) := by decide +kernel
theorem d_Br_itemsOnBelts_32 : decode b_Br_itemsOnBelts 32 = .ok (.iinc 2 1, 3) := by decide +kernel
theorem d_Br_itemsOnBelts_35 : decode b_Br_itemsOnBelts 35 = .ok (.goto (-31), 3) := by decide +kernel
theorem d_Br_itemsOnBelts_38 : decode b_Br_itemsOnBelts 38 = .ok (.iload_n 1, 1) := by decide +kernel
theorem d_Br_itemsOnBelts_39 : decode b_Br_itemsOnBelts 39 = .ok (.ireturn, 1) := by decide +kernel
abbrev b_Br_belt : ByteArray := prog_1_method_2_code
abbrev n_Br_belt : MethodName := ⟨"BeltRows", "belt", "(II)I"⟩
theorem d_Br_belt_0 : decode b_Br_belt 0 = .ok (.iload_n 1, 1) := by decide +kernel
theorem d_Br_belt_1 : decode b_Br_belt 1 = .ok (.iconst 1, 1) := by decide +kernel
theorem d_Br_belt_2 : decode b_Br_belt 2 = .ok (.sipush 10000, 3) := by decide +kernel
theorem d_Br_belt_5 : decode b_Br_belt 5 = .ok (.invokestatic 41, 3) := by decide +kernel
theorem d_Br_belt_8 : decode b_Br_belt 8 = .ok (.iload_n 2, 1) := by decide +kernel
theorem d_Br_belt_9 : decode b_Br_belt 9 = .ok (.iconst 0, 1) := by decide +kernel
theorem d_Br_belt_10 : decode b_Br_belt 10 = .ok (.sipush 1000, 3) := by decide +kernel
theorem d_Br_belt_13 : decode b_Br_belt 13 = .ok (.invokestatic 41, 3) := by decide +kernel
theorem d_Br_belt_16 : decode b_Br_belt 16 = .ok (.aload_n 0, 1) := by decide +kernel
theorem d_Br_belt_17 : decode b_Br_belt 17 = .ok (.getfield 10, 3) := by decide +kernel
theorem d_Br_belt_20 : decode b_Br_belt 20 = .ok (.invokevirtual 45, 3) := by decide +kernel
theorem d_Br_belt_23 : decode b_Br_belt 23 = .ok (.istore_n 3, 1) := by decide +kernel
theorem d_Br_belt_24 : decode b_Br_belt 24 = .ok (.iload_n 3, 1) := by decide +kernel
theorem d_Br_belt_25 : decode b_Br_belt 25 = .ok (.bipush 8, 2) := by decide +kernel
theorem d_Br_belt_27 : decode b_Br_belt 27 = .ok (.if_icmp .lt 13, 3) := by decide +kernel
theorem d_Br_belt_30 : decode b_Br_belt 30 = .ok (.new 49, 3) := by decide +kernel
theorem d_Br_belt_33 : decode b_Br_belt 33 = .ok (.dup, 1) := by decide +kernel
theorem d_Br_belt_34 : decode b_Br_belt 34 = .ok (.ldc 51, 2) := by decide +kernel
theorem d_Br_belt_36 : decode b_Br_belt 36 = .ok (.invokespecial 53, 3) := by decide +kernel
theorem d_Br_belt_39 : decode b_Br_belt 39 = .ok (.athrow, 1) := by decide +kernel
theorem d_Br_belt_40 : decode b_Br_belt 40 = .ok (.aload_n 0, 1) := by decide +kernel
theorem d_Br_belt_41 : decode b_Br_belt 41 = .ok (.getfield 10, 3) := by decide +kernel
theorem d_Br_belt_44 : decode b_Br_belt 44 = .ok (.new 56, 3) := by decide +kernel
theorem d_Br_belt_47 : decode b_Br_belt 47 = .ok (.dup, 1) := by decide +kernel
theorem d_Br_belt_48 : decode b_Br_belt 48 = .ok (.iload_n 3, 1) := by decide +kernel
theorem d_Br_belt_49 : decode b_Br_belt 49 = .ok (.iload_n 1, 1) := by decide +kernel
theorem d_Br_belt_50 : decode b_Br_belt 50 = .ok (.iload_n 2, 1) := by decide +kernel
theorem d_Br_belt_51 : decode b_Br_belt 51 = .ok (.invokespecial 58, 3) := by decide +kernel
theorem d_Br_belt_54 : decode b_Br_belt 54 = .ok (.invokevirtual 60, 3) := by decide +kernel
theorem d_Br_belt_57 : decode b_Br_belt 57 = .ok (.pop, 1) := by decide +kernel
theorem d_Br_belt_58 : decode b_Br_belt 58 = .ok (.iload_n 3, 1) := by decide +kernel
theorem d_Br_belt_59 : decode b_Br_belt 59 = .ok (.ireturn, 1) := by decide +kernel
abbrev b_Br_checkRange : ByteArray := prog_1_method_20_code
abbrev n_Br_checkRange : MethodName := ⟨"BeltRows", "checkRange", "(III)V"⟩
theorem d_Br_checkRange_0 : decode b_Br_checkRange 0 = .ok (.iload_n 0, 1) := by decide +kernel
theorem d_Br_checkRange_1 : decode b_Br_checkRange 1 = .ok (.iload_n 1, 1) := by decide +kernel
theorem d_Br_checkRange_2 : decode b_Br_checkRange 2 = .ok (.if_icmp .lt 8, 3) := by decide +kernel
theorem d_Br_checkRange_5 : decode b_Br_checkRange 5 = .ok (.iload_n 0, 1) := by decide +kernel
theorem d_Br_checkRange_6 : decode b_Br_checkRange 6 = .ok (.iload_n 2, 1) := by decide +kernel
theorem d_Br_checkRange_7 : decode b_Br_checkRange 7 = .ok (.if_icmp .le 13, 3) := by decide +kernel
theorem d_Br_checkRange_10 : decode b_Br_checkRange 10 = .ok (.new 68, 3) := by decide +kernel
theorem d_Br_checkRange_13 : decode b_Br_checkRange 13 = .ok (.dup, 1) := by decide +kernel
theorem d_Br_checkRange_14 : decode b_Br_checkRange 14 = .ok (.ldc 225, 2) := by decide +kernel
theorem d_Br_checkRange_16 : decode b_Br_checkRange 16 = .ok (.invokespecial 72, 3) := by decide +kernel
theorem d_Br_checkRange_19 : decode b_Br_checkRange 19 = .ok (.athrow, 1) := by decide +kernel
theorem d_Br_checkRange_20 : decode b_Br_checkRange 20 = .ok (.return_, 1) := by decide +kernel
abbrev b_Br_join : ByteArray := prog_1_method_3_code
abbrev n_Br_join : MethodName := ⟨"BeltRows", "join", "(IIII)I"⟩
theorem d_Br_join_0 : decode b_Br_join 0 = .ok (.aload_n 0, 1) := by decide +kernel
theorem d_Br_join_1 : decode b_Br_join 1 = .ok (.iload_n 1, 1) := by decide +kernel
theorem d_Br_join_2 : decode b_Br_join 2 = .ok (.invokevirtual 64, 3) := by decide +kernel
theorem d_Br_join_5 : decode b_Br_join 5 = .ok (.astore 5, 2) := by decide +kernel
theorem d_Br_join_7 : decode b_Br_join 7 = .ok (.aload_n 0, 1) := by decide +kernel
theorem d_Br_join_8 : decode b_Br_join 8 = .ok (.iload_n 3, 1) := by decide +kernel
theorem d_Br_join_9 : decode b_Br_join 9 = .ok (.invokevirtual 64, 3) := by decide +kernel
theorem d_Br_join_12 : decode b_Br_join 12 = .ok (.astore 6, 2) := by decide +kernel
theorem d_Br_join_14 : decode b_Br_join 14 = .ok (.iload_n 2, 1) := by decide +kernel
theorem d_Br_join_15 : decode b_Br_join 15 = .ok (.iconst 0, 1) := by decide +kernel
theorem d_Br_join_16 : decode b_Br_join 16 = .ok (.iconst 1, 1) := by decide +kernel
theorem d_Br_join_17 : decode b_Br_join 17 = .ok (.invokestatic 41, 3) := by decide +kernel
theorem d_Br_join_20 : decode b_Br_join 20 = .ok (.iload 4, 2) := by decide +kernel
theorem d_Br_join_22 : decode b_Br_join 22 = .ok (.iconst 1, 1) := by decide +kernel
theorem d_Br_join_23 : decode b_Br_join 23 = .ok (.bipush 9, 2) := by decide +kernel
theorem d_Br_join_25 : decode b_Br_join 25 = .ok (.invokestatic 41, 3) := by decide +kernel
theorem d_Br_join_28 : decode b_Br_join 28 = .ok (.iload_n 3, 1) := by decide +kernel
theorem d_Br_join_29 : decode b_Br_join 29 = .ok (.iload_n 1, 1) := by decide +kernel
theorem d_Br_join_30 : decode b_Br_join 30 = .ok (.if_icmp .gt 13, 3) := by decide +kernel
theorem d_Br_join_33 : decode b_Br_join 33 = .ok (.new 68, 3) := by decide +kernel
theorem d_Br_join_36 : decode b_Br_join 36 = .ok (.dup, 1) := by decide +kernel
theorem d_Br_join_37 : decode b_Br_join 37 = .ok (.ldc 70, 2) := by decide +kernel
theorem d_Br_join_39 : decode b_Br_join 39 = .ok (.invokespecial 72, 3) := by decide +kernel
theorem d_Br_join_42 : decode b_Br_join 42 = .ok (.athrow, 1) := by decide +kernel
theorem d_Br_join_43 : decode b_Br_join 43 = .ok (.aload 5, 2) := by decide +kernel
theorem d_Br_join_45 : decode b_Br_join 45 = .ok (.iload_n 2, 1) := by decide +kernel
theorem d_Br_join_46 : decode b_Br_join 46 = .ok (.invokevirtual 73, 3) := by decide +kernel
theorem d_Br_join_49 : decode b_Br_join 49 = .ok (.aload 6, 2) := by decide +kernel
theorem d_Br_join_51 : decode b_Br_join 51 = .ok (.iload 4, 2) := by decide +kernel
theorem d_Br_join_53 : decode b_Br_join 53 = .ok (.invokevirtual 77, 3) := by decide +kernel
theorem d_Br_join_56 : decode b_Br_join 56 = .ok (.aload_n 0, 1) := by decide +kernel
theorem d_Br_join_57 : decode b_Br_join 57 = .ok (.aload 6, 2) := by decide +kernel
theorem d_Br_join_59 : decode b_Br_join 59 = .ok (.invokevirtual 83, 3) := by decide +kernel
theorem d_Br_join_62 : decode b_Br_join 62 = .ok (.ireturn, 1) := by decide +kernel
abbrev b_Br_findBelt : ByteArray := prog_1_method_22_code
abbrev n_Br_findBelt : MethodName := ⟨"BeltRows", "findBelt", "(I)LBeltRows$Belt;"⟩
theorem d_Br_findBelt_0 : decode b_Br_findBelt 0 = .ok (.iload_n 1, 1) := by decide +kernel
theorem d_Br_findBelt_1 : decode b_Br_findBelt 1 = .ok (.ifCond .lt 14, 3) := by decide +kernel
theorem d_Br_findBelt_4 : decode b_Br_findBelt 4 = .ok (.iload_n 1, 1) := by decide +kernel
theorem d_Br_findBelt_5 : decode b_Br_findBelt 5 = .ok (.aload_n 0, 1) := by decide +kernel
theorem d_Br_findBelt_6 : decode b_Br_findBelt 6 = .ok (.getfield 10, 3) := by decide +kernel
theorem d_Br_findBelt_9 : decode b_Br_findBelt 9 = .ok (.invokevirtual 45, 3) := by decide +kernel
theorem d_Br_findBelt_12 : decode b_Br_findBelt 12 = .ok (.if_icmp .lt 13, 3) := by decide +kernel
theorem d_Br_findBelt_15 : decode b_Br_findBelt 15 = .ok (.new 135, 3) := by decide +kernel
theorem d_Br_findBelt_18 : decode b_Br_findBelt 18 = .ok (.dup, 1) := by decide +kernel
theorem d_Br_findBelt_19 : decode b_Br_findBelt 19 = .ok (.ldc 229, 2) := by decide +kernel
theorem d_Br_findBelt_21 : decode b_Br_findBelt 21 = .ok (.invokespecial 139, 3) := by decide +kernel
theorem d_Br_findBelt_24 : decode b_Br_findBelt 24 = .ok (.athrow, 1) := by decide +kernel
theorem d_Br_findBelt_25 : decode b_Br_findBelt 25 = .ok (.aload_n 0, 1) := by decide +kernel
theorem d_Br_findBelt_26 : decode b_Br_findBelt 26 = .ok (.getfield 10, 3) := by decide +kernel
theorem d_Br_findBelt_29 : decode b_Br_findBelt 29 = .ok (.iload_n 1, 1) := by decide +kernel
theorem d_Br_findBelt_30 : decode b_Br_findBelt 30 = .ok (.invokevirtual 140, 3) := by decide +kernel
theorem d_Br_findBelt_33 : decode b_Br_findBelt 33 = .ok (.checkcast 56, 3) := by decide +kernel
theorem d_Br_findBelt_36 : decode b_Br_findBelt 36 = .ok (.areturn, 1) := by decide +kernel
abbrev b_Br_waysTo : ByteArray := prog_1_method_24_code
abbrev n_Br_waysTo : MethodName := ⟨"BeltRows", "waysTo", "(LBeltRows$Belt;)I"⟩
theorem d_Br_waysTo_0 : decode b_Br_waysTo 0 = .ok (.iconst 0, 1) := by decide +kernel
theorem d_Br_waysTo_1 : decode b_Br_waysTo 1 = .ok (.istore_n 2, 1) := by decide +kernel
theorem d_Br_waysTo_2 : decode b_Br_waysTo 2 = .ok (.iconst 0, 1) := by decide +kernel
theorem d_Br_waysTo_3 : decode b_Br_waysTo 3 = .ok (.istore_n 3, 1) := by decide +kernel
theorem d_Br_waysTo_4 : decode b_Br_waysTo 4 = .ok (.iload_n 3, 1) := by decide +kernel
theorem d_Br_waysTo_5 : decode b_Br_waysTo 5 = .ok (.aload_n 0, 1) := by decide +kernel
theorem d_Br_waysTo_6 : decode b_Br_waysTo 6 = .ok (.getfield 10, 3) := by decide +kernel
theorem d_Br_waysTo_9 : decode b_Br_waysTo 9 = .ok (.invokevirtual 45, 3) := by decide +kernel
theorem d_Br_waysTo_12 : decode b_Br_waysTo 12 = .ok (.if_icmp .ge 64, 3) := by decide +kernel
theorem d_Br_waysTo_15 : decode b_Br_waysTo 15 = .ok (.aload_n 0, 1) := by decide +kernel
theorem d_Br_waysTo_16 : decode b_Br_waysTo 16 = .ok (.getfield 10, 3) := by decide +kernel
theorem d_Br_waysTo_19 : decode b_Br_waysTo 19 = .ok (.iload_n 3, 1) := by decide +kernel
theorem d_Br_waysTo_20 : decode b_Br_waysTo 20 = .ok (.invokevirtual 140, 3) := by decide +kernel
theorem d_Br_waysTo_23 : decode b_Br_waysTo 23 = .ok (.checkcast 56, 3) := by decide +kernel
theorem d_Br_waysTo_26 : decode b_Br_waysTo 26 = .ok (.astore 4, 2) := by decide +kernel
theorem d_Br_waysTo_28 : decode b_Br_waysTo 28 = .ok (.iload_n 2, 1) := by decide +kernel
theorem d_Br_waysTo_29 : decode b_Br_waysTo 29 = .ok (.aload 4, 2) := by decide +kernel
theorem d_Br_waysTo_31 : decode b_Br_waysTo 31 = .ok (.iconst 0, 1) := by decide +kernel
theorem d_Br_waysTo_32 : decode b_Br_waysTo 32 = .ok (.invokevirtual 73, 3) := by decide +kernel
theorem d_Br_waysTo_35 : decode b_Br_waysTo 35 = .ok (.getfield 233, 3) := by decide +kernel
theorem d_Br_waysTo_38 : decode b_Br_waysTo 38 = .ok (.aload_n 1, 1) := by decide +kernel
theorem d_Br_waysTo_39 : decode b_Br_waysTo 39 = .ok (.if_acmp .ne 7, 3) := by decide +kernel
theorem d_Br_waysTo_42 : decode b_Br_waysTo 42 = .ok (.iconst 1, 1) := by decide +kernel
theorem d_Br_waysTo_43 : decode b_Br_waysTo 43 = .ok (.goto 4, 3) := by decide +kernel
theorem d_Br_waysTo_46 : decode b_Br_waysTo 46 = .ok (.iconst 0, 1) := by decide +kernel
theorem d_Br_waysTo_47 : decode b_Br_waysTo 47 = .ok (.iadd, 1) := by decide +kernel
theorem d_Br_waysTo_48 : decode b_Br_waysTo 48 = .ok (.istore_n 2, 1) := by decide +kernel
theorem d_Br_waysTo_49 : decode b_Br_waysTo 49 = .ok (.iload_n 2, 1) := by decide +kernel
theorem d_Br_waysTo_50 : decode b_Br_waysTo 50 = .ok (.aload 4, 2) := by decide +kernel
theorem d_Br_waysTo_52 : decode b_Br_waysTo 52 = .ok (.iconst 1, 1) := by decide +kernel
theorem d_Br_waysTo_53 : decode b_Br_waysTo 53 = .ok (.invokevirtual 73, 3) := by decide +kernel
theorem d_Br_waysTo_56 : decode b_Br_waysTo 56 = .ok (.getfield 233, 3) := by decide +kernel
theorem d_Br_waysTo_59 : decode b_Br_waysTo 59 = .ok (.aload_n 1, 1) := by decide +kernel
theorem d_Br_waysTo_60 : decode b_Br_waysTo 60 = .ok (.if_acmp .ne 7, 3) := by decide +kernel
theorem d_Br_waysTo_63 : decode b_Br_waysTo 63 = .ok (.iconst 1, 1) := by decide +kernel
theorem d_Br_waysTo_64 : decode b_Br_waysTo 64 = .ok (.goto 4, 3) := by decide +kernel
theorem d_Br_waysTo_67 : decode b_Br_waysTo 67 = .ok (.iconst 0, 1) := by decide +kernel
theorem d_Br_waysTo_68 : decode b_Br_waysTo 68 = .ok (.iadd, 1) := by decide +kernel
theorem d_Br_waysTo_69 : decode b_Br_waysTo 69 = .ok (.istore_n 2, 1) := by decide +kernel
theorem d_Br_waysTo_70 : decode b_Br_waysTo 70 = .ok (.iinc 3 1, 3) := by decide +kernel
theorem d_Br_waysTo_73 : decode b_Br_waysTo 73 = .ok (.goto (-69), 3) := by decide +kernel
theorem d_Br_waysTo_76 : decode b_Br_waysTo 76 = .ok (.iload_n 2, 1) := by decide +kernel
theorem d_Br_waysTo_77 : decode b_Br_waysTo 77 = .ok (.ireturn, 1) := by decide +kernel
abbrev b_Br_run : ByteArray := prog_1_method_4_code
abbrev n_Br_run : MethodName := ⟨"BeltRows", "run", "(IIZ)V"⟩
theorem d_Br_run_0 : decode b_Br_run 0 = .ok (.aload_n 0, 1) := by decide +kernel
theorem d_Br_run_1 : decode b_Br_run 1 = .ok (.iload_n 1, 1) := by decide +kernel
theorem d_Br_run_2 : decode b_Br_run 2 = .ok (.invokevirtual 64, 3) := by decide +kernel
theorem d_Br_run_5 : decode b_Br_run 5 = .ok (.astore 4, 2) := by decide +kernel
theorem d_Br_run_7 : decode b_Br_run 7 = .ok (.iload_n 2, 1) := by decide +kernel
theorem d_Br_run_8 : decode b_Br_run 8 = .ok (.iconst 0, 1) := by decide +kernel
theorem d_Br_run_9 : decode b_Br_run 9 = .ok (.sipush 1000, 3) := by decide +kernel
theorem d_Br_run_12 : decode b_Br_run 12 = .ok (.invokestatic 41, 3) := by decide +kernel
theorem d_Br_run_15 : decode b_Br_run 15 = .ok (.aload 4, 2) := by decide +kernel
theorem d_Br_run_17 : decode b_Br_run 17 = .ok (.iload_n 2, 1) := by decide +kernel
theorem d_Br_run_18 : decode b_Br_run 18 = .ok (.putfield 87, 3) := by decide +kernel
theorem d_Br_run_21 : decode b_Br_run 21 = .ok (.aload 4, 2) := by decide +kernel
theorem d_Br_run_23 : decode b_Br_run 23 = .ok (.iload_n 3, 1) := by decide +kernel
theorem d_Br_run_24 : decode b_Br_run 24 = .ok (.putfield 90, 3) := by decide +kernel
theorem d_Br_run_27 : decode b_Br_run 27 = .ok (.return_, 1) := by decide +kernel
abbrev b_Br_gaps : ByteArray := prog_1_method_5_code
abbrev n_Br_gaps : MethodName := ⟨"BeltRows", "gaps", "(I)V"⟩
theorem d_Br_gaps_0 : decode b_Br_gaps 0 = .ok (.iload_n 1, 1) := by decide +kernel
theorem d_Br_gaps_1 : decode b_Br_gaps 1 = .ok (.iconst 0, 1) := by decide +kernel
theorem d_Br_gaps_2 : decode b_Br_gaps 2 = .ok (.sipush 1000, 3) := by decide +kernel
theorem d_Br_gaps_5 : decode b_Br_gaps 5 = .ok (.invokestatic 41, 3) := by decide +kernel
theorem d_Br_gaps_8 : decode b_Br_gaps 8 = .ok (.aload_n 0, 1) := by decide +kernel
theorem d_Br_gaps_9 : decode b_Br_gaps 9 = .ok (.iload_n 1, 1) := by decide +kernel
theorem d_Br_gaps_10 : decode b_Br_gaps 10 = .ok (.putfield 31, 3) := by decide +kernel
theorem d_Br_gaps_13 : decode b_Br_gaps 13 = .ok (.return_, 1) := by decide +kernel
abbrev b_Br_scanner : ByteArray := prog_1_method_6_code
abbrev n_Br_scanner : MethodName := ⟨"BeltRows", "scanner", "(III)I"⟩
theorem d_Br_scanner_0 : decode b_Br_scanner 0 = .ok (.aload_n 0, 1) := by decide +kernel
theorem d_Br_scanner_1 : decode b_Br_scanner 1 = .ok (.iload_n 1, 1) := by decide +kernel
theorem d_Br_scanner_2 : decode b_Br_scanner 2 = .ok (.invokevirtual 64, 3) := by decide +kernel
theorem d_Br_scanner_5 : decode b_Br_scanner 5 = .ok (.astore 4, 2) := by decide +kernel
theorem d_Br_scanner_7 : decode b_Br_scanner 7 = .ok (.iload_n 2, 1) := by decide +kernel
theorem d_Br_scanner_8 : decode b_Br_scanner 8 = .ok (.iconst 1, 1) := by decide +kernel
theorem d_Br_scanner_9 : decode b_Br_scanner 9 = .ok (.aload 4, 2) := by decide +kernel
theorem d_Br_scanner_11 : decode b_Br_scanner 11 = .ok (.getfield 94, 3) := by decide +kernel
theorem d_Br_scanner_14 : decode b_Br_scanner 14 = .ok (.invokestatic 41, 3) := by decide +kernel
theorem d_Br_scanner_17 : decode b_Br_scanner 17 = .ok (.iload_n 3, 1) := by decide +kernel
theorem d_Br_scanner_18 : decode b_Br_scanner 18 = .ok (.iconst 1, 1) := by decide +kernel
theorem d_Br_scanner_19 : decode b_Br_scanner 19 = .ok (.bipush 20, 2) := by decide +kernel
theorem d_Br_scanner_21 : decode b_Br_scanner 21 = .ok (.invokestatic 41, 3) := by decide +kernel
theorem d_Br_scanner_24 : decode b_Br_scanner 24 = .ok (.aload_n 0, 1) := by decide +kernel
theorem d_Br_scanner_25 : decode b_Br_scanner 25 = .ok (.getfield 19, 3) := by decide +kernel
theorem d_Br_scanner_28 : decode b_Br_scanner 28 = .ok (.invokevirtual 45, 3) := by decide +kernel
theorem d_Br_scanner_31 : decode b_Br_scanner 31 = .ok (.istore 5, 2) := by decide +kernel
theorem d_Br_scanner_33 : decode b_Br_scanner 33 = .ok (.iload 5, 2) := by decide +kernel
theorem d_Br_scanner_35 : decode b_Br_scanner 35 = .ok (.iconst 4, 1) := by decide +kernel
theorem d_Br_scanner_36 : decode b_Br_scanner 36 = .ok (.if_icmp .lt 13, 3) := by decide +kernel
theorem d_Br_scanner_39 : decode b_Br_scanner 39 = .ok (.new 49, 3) := by decide +kernel
theorem d_Br_scanner_42 : decode b_Br_scanner 42 = .ok (.dup, 1) := by decide +kernel
theorem d_Br_scanner_43 : decode b_Br_scanner 43 = .ok (.ldc 97, 2) := by decide +kernel
theorem d_Br_scanner_45 : decode b_Br_scanner 45 = .ok (.invokespecial 53, 3) := by decide +kernel
theorem d_Br_scanner_48 : decode b_Br_scanner 48 = .ok (.athrow, 1) := by decide +kernel
theorem d_Br_scanner_49 : decode b_Br_scanner 49 = .ok (.aload_n 0, 1) := by decide +kernel
theorem d_Br_scanner_50 : decode b_Br_scanner 50 = .ok (.getfield 19, 3) := by decide +kernel
theorem d_Br_scanner_53 : decode b_Br_scanner 53 = .ok (.new 99, 3) := by decide +kernel
theorem d_Br_scanner_56 : decode b_Br_scanner 56 = .ok (.dup, 1) := by decide +kernel
theorem d_Br_scanner_57 : decode b_Br_scanner 57 = .ok (.iload 5, 2) := by decide +kernel
theorem d_Br_scanner_59 : decode b_Br_scanner 59 = .ok (.aload 4, 2) := by decide +kernel
theorem d_Br_scanner_61 : decode b_Br_scanner 61 = .ok (.iload_n 2, 1) := by decide +kernel
theorem d_Br_scanner_62 : decode b_Br_scanner 62 = .ok (.iload_n 3, 1) := by decide +kernel
theorem d_Br_scanner_63 : decode b_Br_scanner 63 = .ok (.invokespecial 101, 3) := by decide +kernel
theorem d_Br_scanner_66 : decode b_Br_scanner 66 = .ok (.invokevirtual 60, 3) := by decide +kernel
theorem d_Br_scanner_69 : decode b_Br_scanner 69 = .ok (.pop, 1) := by decide +kernel
theorem d_Br_scanner_70 : decode b_Br_scanner 70 = .ok (.iload 5, 2) := by decide +kernel
theorem d_Br_scanner_72 : decode b_Br_scanner 72 = .ok (.ireturn, 1) := by decide +kernel
abbrev b_Br_item : ByteArray := prog_1_method_7_code
abbrev n_Br_item : MethodName := ⟨"BeltRows", "item", "(II)I"⟩
theorem d_Br_item_0 : decode b_Br_item 0 = .ok (.aload_n 0, 1) := by decide +kernel
theorem d_Br_item_1 : decode b_Br_item 1 = .ok (.iload_n 1, 1) := by decide +kernel
theorem d_Br_item_2 : decode b_Br_item 2 = .ok (.invokevirtual 64, 3) := by decide +kernel
theorem d_Br_item_5 : decode b_Br_item 5 = .ok (.astore_n 3, 1) := by decide +kernel
theorem d_Br_item_6 : decode b_Br_item 6 = .ok (.iload_n 2, 1) := by decide +kernel
theorem d_Br_item_7 : decode b_Br_item 7 = .ok (.iconst 1, 1) := by decide +kernel
theorem d_Br_item_8 : decode b_Br_item 8 = .ok (.sipush 2000, 3) := by decide +kernel
theorem d_Br_item_11 : decode b_Br_item 11 = .ok (.invokestatic 41, 3) := by decide +kernel
theorem d_Br_item_14 : decode b_Br_item 14 = .ok (.aload_n 0, 1) := by decide +kernel
theorem d_Br_item_15 : decode b_Br_item 15 = .ok (.getfield 16, 3) := by decide +kernel
theorem d_Br_item_18 : decode b_Br_item 18 = .ok (.invokevirtual 45, 3) := by decide +kernel
theorem d_Br_item_21 : decode b_Br_item 21 = .ok (.bipush 60, 2) := by decide +kernel
theorem d_Br_item_23 : decode b_Br_item 23 = .ok (.if_icmp .lt 13, 3) := by decide +kernel
theorem d_Br_item_26 : decode b_Br_item 26 = .ok (.new 49, 3) := by decide +kernel
theorem d_Br_item_29 : decode b_Br_item 29 = .ok (.dup, 1) := by decide +kernel
theorem d_Br_item_30 : decode b_Br_item 30 = .ok (.ldc 104, 2) := by decide +kernel
theorem d_Br_item_32 : decode b_Br_item 32 = .ok (.invokespecial 53, 3) := by decide +kernel
theorem d_Br_item_35 : decode b_Br_item 35 = .ok (.athrow, 1) := by decide +kernel
theorem d_Br_item_36 : decode b_Br_item 36 = .ok (.aload_n 0, 1) := by decide +kernel
theorem d_Br_item_37 : decode b_Br_item 37 = .ok (.aload_n 3, 1) := by decide +kernel
theorem d_Br_item_38 : decode b_Br_item 38 = .ok (.invokevirtual 106, 3) := by decide +kernel
theorem d_Br_item_41 : decode b_Br_item 41 = .ok (.istore 4, 2) := by decide +kernel
theorem d_Br_item_43 : decode b_Br_item 43 = .ok (.iload 4, 2) := by decide +kernel
theorem d_Br_item_45 : decode b_Br_item 45 = .ok (.ifCond .le 7, 3) := by decide +kernel
theorem d_Br_item_48 : decode b_Br_item 48 = .ok (.iload 4, 2) := by decide +kernel
theorem d_Br_item_50 : decode b_Br_item 50 = .ok (.ineg, 1) := by decide +kernel
theorem d_Br_item_51 : decode b_Br_item 51 = .ok (.ireturn, 1) := by decide +kernel
theorem d_Br_item_52 : decode b_Br_item 52 = .ok (.new 109, 3) := by decide +kernel
theorem d_Br_item_55 : decode b_Br_item 55 = .ok (.dup, 1) := by decide +kernel
theorem d_Br_item_56 : decode b_Br_item 56 = .ok (.aload_n 0, 1) := by decide +kernel
theorem d_Br_item_57 : decode b_Br_item 57 = .ok (.getfield 16, 3) := by decide +kernel
theorem d_Br_item_60 : decode b_Br_item 60 = .ok (.invokevirtual 45, 3) := by decide +kernel
theorem d_Br_item_63 : decode b_Br_item 63 = .ok (.iconst 1, 1) := by decide +kernel
theorem d_Br_item_64 : decode b_Br_item 64 = .ok (.iadd, 1) := by decide +kernel
theorem d_Br_item_65 : decode b_Br_item 65 = .ok (.iload_n 2, 1) := by decide +kernel
theorem d_Br_item_66 : decode b_Br_item 66 = .ok (.aload_n 0, 1) := by decide +kernel
theorem d_Br_item_67 : decode b_Br_item 67 = .ok (.getfield 35, 3) := by decide +kernel
theorem d_Br_item_70 : decode b_Br_item 70 = .ok (.invokespecial 111, 3) := by decide +kernel
theorem d_Br_item_73 : decode b_Br_item 73 = .ok (.astore 5, 2) := by decide +kernel
theorem d_Br_item_75 : decode b_Br_item 75 = .ok (.aload_n 0, 1) := by decide +kernel
theorem d_Br_item_76 : decode b_Br_item 76 = .ok (.getfield 16, 3) := by decide +kernel
theorem d_Br_item_79 : decode b_Br_item 79 = .ok (.aload 5, 2) := by decide +kernel
theorem d_Br_item_81 : decode b_Br_item 81 = .ok (.invokevirtual 60, 3) := by decide +kernel
theorem d_Br_item_84 : decode b_Br_item 84 = .ok (.pop, 1) := by decide +kernel
theorem d_Br_item_85 : decode b_Br_item 85 = .ok (.aload_n 3, 1) := by decide +kernel
theorem d_Br_item_86 : decode b_Br_item 86 = .ok (.aload 5, 2) := by decide +kernel
theorem d_Br_item_88 : decode b_Br_item 88 = .ok (.invokevirtual 112, 3) := by decide +kernel
theorem d_Br_item_91 : decode b_Br_item 91 = .ok (.aload 5, 2) := by decide +kernel
theorem d_Br_item_93 : decode b_Br_item 93 = .ok (.getfield 116, 3) := by decide +kernel
theorem d_Br_item_96 : decode b_Br_item 96 = .ok (.ireturn, 1) := by decide +kernel
abbrev b_Br_missingToRoom : ByteArray := prog_1_method_26_code
abbrev n_Br_missingToRoom : MethodName := ⟨"BeltRows", "missingToRoom", "(LBeltRows$Belt;)I"⟩
theorem d_Br_missingToRoom_0 : decode b_Br_missingToRoom 0 = .ok (.aload_n 1, 1) := by decide +kernel
theorem d_Br_missingToRoom_1 : decode b_Br_missingToRoom 1 = .ok (.getfield 236, 3) := by decide +kernel
theorem d_Br_missingToRoom_4 : decode b_Br_missingToRoom 4 = .ok (.ifnonnull 7, 3) := by decide +kernel
theorem d_Br_missingToRoom_7 : decode b_Br_missingToRoom 7 = .ok (.iconst 0, 1) := by decide +kernel
theorem d_Br_missingToRoom_8 : decode b_Br_missingToRoom 8 = .ok (.goto 19, 3) := by decide +kernel
theorem d_Br_missingToRoom_11 : decode b_Br_missingToRoom 11 = .ok (.iconst 0, 1) := by decide +kernel
theorem d_Br_missingToRoom_12 : decode b_Br_missingToRoom 12 = .ok (.aload_n 0, 1) := by decide +kernel
theorem d_Br_missingToRoom_13 : decode b_Br_missingToRoom 13 = .ok (.getfield 31, 3) := by decide +kernel
theorem d_Br_missingToRoom_16 : decode b_Br_missingToRoom 16 = .ok (.aload_n 1, 1) := by decide +kernel
theorem d_Br_missingToRoom_17 : decode b_Br_missingToRoom 17 = .ok (.getfield 236, 3) := by decide +kernel
theorem d_Br_missingToRoom_20 : decode b_Br_missingToRoom 20 = .ok (.invokevirtual 172, 3) := by decide +kernel
theorem d_Br_missingToRoom_23 : decode b_Br_missingToRoom 23 = .ok (.isub, 1) := by decide +kernel
theorem d_Br_missingToRoom_24 : decode b_Br_missingToRoom 24 = .ok (.invokestatic 239, 3) := by decide +kernel
theorem d_Br_missingToRoom_27 : decode b_Br_missingToRoom 27 = .ok (.ireturn, 1) := by decide +kernel
abbrev b_Br_divert : ByteArray := prog_1_method_8_code
abbrev n_Br_divert : MethodName := ⟨"BeltRows", "divert", "(II)I"⟩
theorem d_Br_divert_0 : decode b_Br_divert 0 = .ok (.aload_n 0, 1) := by decide +kernel
theorem d_Br_divert_1 : decode b_Br_divert 1 = .ok (.iload_n 1, 1) := by decide +kernel
theorem d_Br_divert_2 : decode b_Br_divert 2 = .ok (.invokevirtual 119, 3) := by decide +kernel
theorem d_Br_divert_5 : decode b_Br_divert 5 = .ok (.astore_n 3, 1) := by decide +kernel
theorem d_Br_divert_6 : decode b_Br_divert 6 = .ok (.iload_n 2, 1) := by decide +kernel
theorem d_Br_divert_7 : decode b_Br_divert 7 = .ok (.iconst 0, 1) := by decide +kernel
theorem d_Br_divert_8 : decode b_Br_divert 8 = .ok (.iconst 1, 1) := by decide +kernel
theorem d_Br_divert_9 : decode b_Br_divert 9 = .ok (.invokestatic 41, 3) := by decide +kernel
theorem d_Br_divert_12 : decode b_Br_divert 12 = .ok (.aload_n 3, 1) := by decide +kernel
theorem d_Br_divert_13 : decode b_Br_divert 13 = .ok (.invokestatic 123, 3) := by decide +kernel
theorem d_Br_divert_16 : decode b_Br_divert 16 = .ok (.aload_n 3, 1) := by decide +kernel
theorem d_Br_divert_17 : decode b_Br_divert 17 = .ok (.getfield 126, 3) := by decide +kernel
theorem d_Br_divert_20 : decode b_Br_divert 20 = .ok (.ifCond .eq 7, 3) := by decide +kernel
theorem d_Br_divert_23 : decode b_Br_divert 23 = .ok (.iconst 2, 1) := by decide +kernel
theorem d_Br_divert_24 : decode b_Br_divert 24 = .ok (.goto 4, 3) := by decide +kernel
theorem d_Br_divert_27 : decode b_Br_divert 27 = .ok (.iconst 1, 1) := by decide +kernel
theorem d_Br_divert_28 : decode b_Br_divert 28 = .ok (.istore 4, 2) := by decide +kernel
theorem d_Br_divert_30 : decode b_Br_divert 30 = .ok (.aload_n 3, 1) := by decide +kernel
theorem d_Br_divert_31 : decode b_Br_divert 31 = .ok (.iload_n 2, 1) := by decide +kernel
theorem d_Br_divert_32 : decode b_Br_divert 32 = .ok (.putfield 129, 3) := by decide +kernel
theorem d_Br_divert_35 : decode b_Br_divert 35 = .ok (.aload_n 3, 1) := by decide +kernel
theorem d_Br_divert_36 : decode b_Br_divert 36 = .ok (.iconst 1, 1) := by decide +kernel
theorem d_Br_divert_37 : decode b_Br_divert 37 = .ok (.putfield 126, 3) := by decide +kernel
theorem d_Br_divert_40 : decode b_Br_divert 40 = .ok (.iload 4, 2) := by decide +kernel
theorem d_Br_divert_42 : decode b_Br_divert 42 = .ok (.ireturn, 1) := by decide +kernel
abbrev b_Br_findItem : ByteArray := prog_1_method_23_code
abbrev n_Br_findItem : MethodName := ⟨"BeltRows", "findItem", "(I)LBeltRows$Item;"⟩
theorem d_Br_findItem_0 : decode b_Br_findItem 0 = .ok (.iload_n 1, 1) := by decide +kernel
theorem d_Br_findItem_1 : decode b_Br_findItem 1 = .ok (.iconst 1, 1) := by decide +kernel
theorem d_Br_findItem_2 : decode b_Br_findItem 2 = .ok (.if_icmp .lt 14, 3) := by decide +kernel
theorem d_Br_findItem_5 : decode b_Br_findItem 5 = .ok (.iload_n 1, 1) := by decide +kernel
theorem d_Br_findItem_6 : decode b_Br_findItem 6 = .ok (.aload_n 0, 1) := by decide +kernel
theorem d_Br_findItem_7 : decode b_Br_findItem 7 = .ok (.getfield 16, 3) := by decide +kernel
theorem d_Br_findItem_10 : decode b_Br_findItem 10 = .ok (.invokevirtual 45, 3) := by decide +kernel
theorem d_Br_findItem_13 : decode b_Br_findItem 13 = .ok (.if_icmp .le 13, 3) := by decide +kernel
theorem d_Br_findItem_16 : decode b_Br_findItem 16 = .ok (.new 135, 3) := by decide +kernel
theorem d_Br_findItem_19 : decode b_Br_findItem 19 = .ok (.dup, 1) := by decide +kernel
theorem d_Br_findItem_20 : decode b_Br_findItem 20 = .ok (.ldc 231, 2) := by decide +kernel
theorem d_Br_findItem_22 : decode b_Br_findItem 22 = .ok (.invokespecial 139, 3) := by decide +kernel
theorem d_Br_findItem_25 : decode b_Br_findItem 25 = .ok (.athrow, 1) := by decide +kernel
theorem d_Br_findItem_26 : decode b_Br_findItem 26 = .ok (.aload_n 0, 1) := by decide +kernel
theorem d_Br_findItem_27 : decode b_Br_findItem 27 = .ok (.getfield 16, 3) := by decide +kernel
theorem d_Br_findItem_30 : decode b_Br_findItem 30 = .ok (.iload_n 1, 1) := by decide +kernel
theorem d_Br_findItem_31 : decode b_Br_findItem 31 = .ok (.iconst 1, 1) := by decide +kernel
theorem d_Br_findItem_32 : decode b_Br_findItem 32 = .ok (.isub, 1) := by decide +kernel
theorem d_Br_findItem_33 : decode b_Br_findItem 33 = .ok (.invokevirtual 140, 3) := by decide +kernel
theorem d_Br_findItem_36 : decode b_Br_findItem 36 = .ok (.checkcast 109, 3) := by decide +kernel
theorem d_Br_findItem_39 : decode b_Br_findItem 39 = .ok (.areturn, 1) := by decide +kernel
abbrev b_Br_checkOnBelt : ByteArray := prog_1_method_21_code
abbrev n_Br_checkOnBelt : MethodName := ⟨"BeltRows", "checkOnBelt", "(LBeltRows$Item;)V"⟩
theorem d_Br_checkOnBelt_0 : decode b_Br_checkOnBelt 0 = .ok (.aload_n 0, 1) := by decide +kernel
theorem d_Br_checkOnBelt_1 : decode b_Br_checkOnBelt 1 = .ok (.getfield 194, 3) := by decide +kernel
theorem d_Br_checkOnBelt_4 : decode b_Br_checkOnBelt 4 = .ok (.ifCond .eq 13, 3) := by decide +kernel
theorem d_Br_checkOnBelt_7 : decode b_Br_checkOnBelt 7 = .ok (.new 163, 3) := by decide +kernel
theorem d_Br_checkOnBelt_10 : decode b_Br_checkOnBelt 10 = .ok (.dup, 1) := by decide +kernel
theorem d_Br_checkOnBelt_11 : decode b_Br_checkOnBelt 11 = .ok (.ldc 227, 2) := by decide +kernel
theorem d_Br_checkOnBelt_13 : decode b_Br_checkOnBelt 13 = .ok (.invokespecial 167, 3) := by decide +kernel
theorem d_Br_checkOnBelt_16 : decode b_Br_checkOnBelt 16 = .ok (.athrow, 1) := by decide +kernel
theorem d_Br_checkOnBelt_17 : decode b_Br_checkOnBelt 17 = .ok (.return_, 1) := by decide +kernel
abbrev b_Br_step : ByteArray := prog_1_method_9_code
abbrev n_Br_step : MethodName := ⟨"BeltRows", "step", "(I)I"⟩
theorem d_Br_step_0 : decode b_Br_step 0 = .ok (.iload_n 1, 1) := by decide +kernel
theorem d_Br_step_1 : decode b_Br_step 1 = .ok (.iconst 0, 1) := by decide +kernel
theorem d_Br_step_2 : decode b_Br_step 2 = .ok (.bipush 100, 2) := by decide +kernel
theorem d_Br_step_4 : decode b_Br_step 4 = .ok (.invokestatic 41, 3) := by decide +kernel
theorem d_Br_step_7 : decode b_Br_step 7 = .ok (.aload_n 0, 1) := by decide +kernel
theorem d_Br_step_8 : decode b_Br_step 8 = .ok (.getfield 22, 3) := by decide +kernel
theorem d_Br_step_11 : decode b_Br_step 11 = .ok (.invokevirtual 45, 3) := by decide +kernel
theorem d_Br_step_14 : decode b_Br_step 14 = .ok (.istore_n 2, 1) := by decide +kernel
theorem d_Br_step_15 : decode b_Br_step 15 = .ok (.iconst 0, 1) := by decide +kernel
theorem d_Br_step_16 : decode b_Br_step 16 = .ok (.istore_n 3, 1) := by decide +kernel
theorem d_Br_step_17 : decode b_Br_step 17 = .ok (.iload_n 3, 1) := by decide +kernel
theorem d_Br_step_18 : decode b_Br_step 18 = .ok (.iload_n 1, 1) := by decide +kernel
theorem d_Br_step_19 : decode b_Br_step 19 = .ok (.if_icmp .ge 13, 3) := by decide +kernel
theorem d_Br_step_22 : decode b_Br_step 22 = .ok (.aload_n 0, 1) := by decide +kernel
theorem d_Br_step_23 : decode b_Br_step 23 = .ok (.invokevirtual 132, 3) := by decide +kernel
theorem d_Br_step_26 : decode b_Br_step 26 = .ok (.iinc 3 1, 3) := by decide +kernel
theorem d_Br_step_29 : decode b_Br_step 29 = .ok (.goto (-12), 3) := by decide +kernel
theorem d_Br_step_32 : decode b_Br_step 32 = .ok (.aload_n 0, 1) := by decide +kernel
theorem d_Br_step_33 : decode b_Br_step 33 = .ok (.getfield 22, 3) := by decide +kernel
theorem d_Br_step_36 : decode b_Br_step 36 = .ok (.invokevirtual 45, 3) := by decide +kernel
theorem d_Br_step_39 : decode b_Br_step 39 = .ok (.iload_n 2, 1) := by decide +kernel
theorem d_Br_step_40 : decode b_Br_step 40 = .ok (.isub, 1) := by decide +kernel
theorem d_Br_step_41 : decode b_Br_step 41 = .ok (.ireturn, 1) := by decide +kernel
abbrev b_Br_passSecond : ByteArray := prog_1_method_27_code
abbrev n_Br_passSecond : MethodName := ⟨"BeltRows", "passSecond", "()V"⟩
theorem d_Br_passSecond_0 : decode b_Br_passSecond 0 = .ok (.aload_n 0, 1) := by decide +kernel
theorem d_Br_passSecond_1 : decode b_Br_passSecond 1 = .ok (.dup, 1) := by decide +kernel
theorem d_Br_passSecond_2 : decode b_Br_passSecond 2 = .ok (.getfield 35, 3) := by decide +kernel
theorem d_Br_passSecond_5 : decode b_Br_passSecond 5 = .ok (.iconst 1, 1) := by decide +kernel
theorem d_Br_passSecond_6 : decode b_Br_passSecond 6 = .ok (.iadd, 1) := by decide +kernel
theorem d_Br_passSecond_7 : decode b_Br_passSecond 7 = .ok (.putfield 35, 3) := by decide +kernel
theorem d_Br_passSecond_10 : decode b_Br_passSecond 10 = .ok (.aload_n 0, 1) := by decide +kernel
theorem d_Br_passSecond_11 : decode b_Br_passSecond 11 = .ok (.invokevirtual 245, 3) := by decide +kernel
theorem d_Br_passSecond_14 : decode b_Br_passSecond 14 = .ok (.aload_n 0, 1) := by decide +kernel
theorem d_Br_passSecond_15 : decode b_Br_passSecond 15 = .ok (.getfield 10, 3) := by decide +kernel
theorem d_Br_passSecond_18 : decode b_Br_passSecond 18 = .ok (.invokevirtual 45, 3) := by decide +kernel
theorem d_Br_passSecond_21 : decode b_Br_passSecond 21 = .ok (.iconst 1, 1) := by decide +kernel
theorem d_Br_passSecond_22 : decode b_Br_passSecond 22 = .ok (.isub, 1) := by decide +kernel
theorem d_Br_passSecond_23 : decode b_Br_passSecond 23 = .ok (.istore_n 1, 1) := by decide +kernel
theorem d_Br_passSecond_24 : decode b_Br_passSecond 24 = .ok (.iload_n 1, 1) := by decide +kernel
theorem d_Br_passSecond_25 : decode b_Br_passSecond 25 = .ok (.ifCond .lt 38, 3) := by decide +kernel
theorem d_Br_passSecond_28 : decode b_Br_passSecond 28 = .ok (.aload_n 0, 1) := by decide +kernel
theorem d_Br_passSecond_29 : decode b_Br_passSecond 29 = .ok (.getfield 10, 3) := by decide +kernel
theorem d_Br_passSecond_32 : decode b_Br_passSecond 32 = .ok (.iload_n 1, 1) := by decide +kernel
theorem d_Br_passSecond_33 : decode b_Br_passSecond 33 = .ok (.invokevirtual 140, 3) := by decide +kernel
theorem d_Br_passSecond_36 : decode b_Br_passSecond 36 = .ok (.checkcast 56, 3) := by decide +kernel
theorem d_Br_passSecond_39 : decode b_Br_passSecond 39 = .ok (.astore_n 2, 1) := by decide +kernel
theorem d_Br_passSecond_40 : decode b_Br_passSecond 40 = .ok (.aload_n 2, 1) := by decide +kernel
theorem d_Br_passSecond_41 : decode b_Br_passSecond 41 = .ok (.getfield 90, 3) := by decide +kernel
theorem d_Br_passSecond_44 : decode b_Br_passSecond 44 = .ok (.ifCond .eq 13, 3) := by decide +kernel
theorem d_Br_passSecond_47 : decode b_Br_passSecond 47 = .ok (.aload_n 0, 1) := by decide +kernel
theorem d_Br_passSecond_48 : decode b_Br_passSecond 48 = .ok (.aload_n 2, 1) := by decide +kernel
theorem d_Br_passSecond_49 : decode b_Br_passSecond 49 = .ok (.invokevirtual 248, 3) := by decide +kernel
theorem d_Br_passSecond_52 : decode b_Br_passSecond 52 = .ok (.aload_n 0, 1) := by decide +kernel
theorem d_Br_passSecond_53 : decode b_Br_passSecond 53 = .ok (.aload_n 2, 1) := by decide +kernel
theorem d_Br_passSecond_54 : decode b_Br_passSecond 54 = .ok (.invokevirtual 252, 3) := by decide +kernel
theorem d_Br_passSecond_57 : decode b_Br_passSecond 57 = .ok (.iinc 1 (-1), 3) := by decide +kernel
theorem d_Br_passSecond_60 : decode b_Br_passSecond 60 = .ok (.goto (-36), 3) := by decide +kernel
theorem d_Br_passSecond_63 : decode b_Br_passSecond 63 = .ok (.iconst 0, 1) := by decide +kernel
theorem d_Br_passSecond_64 : decode b_Br_passSecond 64 = .ok (.istore_n 1, 1) := by decide +kernel
theorem d_Br_passSecond_65 : decode b_Br_passSecond 65 = .ok (.iload_n 1, 1) := by decide +kernel
theorem d_Br_passSecond_66 : decode b_Br_passSecond 66 = .ok (.aload_n 0, 1) := by decide +kernel
theorem d_Br_passSecond_67 : decode b_Br_passSecond 67 = .ok (.getfield 10, 3) := by decide +kernel
theorem d_Br_passSecond_70 : decode b_Br_passSecond 70 = .ok (.invokevirtual 45, 3) := by decide +kernel
theorem d_Br_passSecond_73 : decode b_Br_passSecond 73 = .ok (.if_icmp .ge 33, 3) := by decide +kernel
theorem d_Br_passSecond_76 : decode b_Br_passSecond 76 = .ok (.aload_n 0, 1) := by decide +kernel
theorem d_Br_passSecond_77 : decode b_Br_passSecond 77 = .ok (.getfield 10, 3) := by decide +kernel
theorem d_Br_passSecond_80 : decode b_Br_passSecond 80 = .ok (.iload_n 1, 1) := by decide +kernel
theorem d_Br_passSecond_81 : decode b_Br_passSecond 81 = .ok (.invokevirtual 140, 3) := by decide +kernel
theorem d_Br_passSecond_84 : decode b_Br_passSecond 84 = .ok (.checkcast 56, 3) := by decide +kernel
theorem d_Br_passSecond_87 : decode b_Br_passSecond 87 = .ok (.astore_n 2, 1) := by decide +kernel
theorem d_Br_passSecond_88 : decode b_Br_passSecond 88 = .ok (.aload_n 2, 1) := by decide +kernel
theorem d_Br_passSecond_89 : decode b_Br_passSecond 89 = .ok (.getfield 90, 3) := by decide +kernel
theorem d_Br_passSecond_92 : decode b_Br_passSecond 92 = .ok (.ifCond .eq 8, 3) := by decide +kernel
theorem d_Br_passSecond_95 : decode b_Br_passSecond 95 = .ok (.aload_n 0, 1) := by decide +kernel
theorem d_Br_passSecond_96 : decode b_Br_passSecond 96 = .ok (.aload_n 2, 1) := by decide +kernel
theorem d_Br_passSecond_97 : decode b_Br_passSecond 97 = .ok (.invokevirtual 255, 3) := by decide +kernel
theorem d_Br_passSecond_100 : decode b_Br_passSecond 100 = .ok (.iinc 1 1, 3) := by decide +kernel
theorem d_Br_passSecond_103 : decode b_Br_passSecond 103 = .ok (.goto (-38), 3) := by decide +kernel
theorem d_Br_passSecond_106 : decode b_Br_passSecond 106 = .ok (.return_, 1) := by decide +kernel
abbrev b_Br_tellReads : ByteArray := prog_1_method_28_code
abbrev n_Br_tellReads : MethodName := ⟨"BeltRows", "tellReads", "()V"⟩
theorem d_Br_tellReads_0 : decode b_Br_tellReads 0 = .ok (.aload_n 0, 1) := by decide +kernel
theorem d_Br_tellReads_1 : decode b_Br_tellReads 1 = .ok (.getfield 25, 3) := by decide +kernel
theorem d_Br_tellReads_4 : decode b_Br_tellReads 4 = .ok (.invokevirtual 45, 3) := by decide +kernel
theorem d_Br_tellReads_7 : decode b_Br_tellReads 7 = .ok (.istore_n 1, 1) := by decide +kernel
theorem d_Br_tellReads_8 : decode b_Br_tellReads 8 = .ok (.iconst 0, 1) := by decide +kernel
theorem d_Br_tellReads_9 : decode b_Br_tellReads 9 = .ok (.istore_n 2, 1) := by decide +kernel
theorem d_Br_tellReads_10 : decode b_Br_tellReads 10 = .ok (.iconst 0, 1) := by decide +kernel
theorem d_Br_tellReads_11 : decode b_Br_tellReads 11 = .ok (.istore_n 3, 1) := by decide +kernel
theorem d_Br_tellReads_12 : decode b_Br_tellReads 12 = .ok (.iload_n 3, 1) := by decide +kernel
theorem d_Br_tellReads_13 : decode b_Br_tellReads 13 = .ok (.iload_n 1, 1) := by decide +kernel
theorem d_Br_tellReads_14 : decode b_Br_tellReads 14 = .ok (.if_icmp .ge 57, 3) := by decide +kernel
theorem d_Br_tellReads_17 : decode b_Br_tellReads 17 = .ok (.aload_n 0, 1) := by decide +kernel
theorem d_Br_tellReads_18 : decode b_Br_tellReads 18 = .ok (.getfield 25, 3) := by decide +kernel
theorem d_Br_tellReads_21 : decode b_Br_tellReads 21 = .ok (.iload_n 3, 1) := by decide +kernel
theorem d_Br_tellReads_22 : decode b_Br_tellReads 22 = .ok (.invokevirtual 140, 3) := by decide +kernel
theorem d_Br_tellReads_25 : decode b_Br_tellReads 25 = .ok (.checkcast 144, 3) := by decide +kernel
theorem d_Br_tellReads_28 : decode b_Br_tellReads 28 = .ok (.astore 4, 2) := by decide +kernel
theorem d_Br_tellReads_30 : decode b_Br_tellReads 30 = .ok (.aload 4, 2) := by decide +kernel
theorem d_Br_tellReads_32 : decode b_Br_tellReads 32 = .ok (.getfield 146, 3) := by decide +kernel
theorem d_Br_tellReads_35 : decode b_Br_tellReads 35 = .ok (.aload_n 0, 1) := by decide +kernel
theorem d_Br_tellReads_36 : decode b_Br_tellReads 36 = .ok (.getfield 35, 3) := by decide +kernel
theorem d_Br_tellReads_39 : decode b_Br_tellReads 39 = .ok (.if_icmp .ne 12, 3) := by decide +kernel
theorem d_Br_tellReads_42 : decode b_Br_tellReads 42 = .ok (.aload_n 0, 1) := by decide +kernel
theorem d_Br_tellReads_43 : decode b_Br_tellReads 43 = .ok (.aload 4, 2) := by decide +kernel
theorem d_Br_tellReads_45 : decode b_Br_tellReads 45 = .ok (.invokevirtual 258, 3) := by decide +kernel
theorem d_Br_tellReads_48 : decode b_Br_tellReads 48 = .ok (.goto 17, 3) := by decide +kernel
theorem d_Br_tellReads_51 : decode b_Br_tellReads 51 = .ok (.aload_n 0, 1) := by decide +kernel
theorem d_Br_tellReads_52 : decode b_Br_tellReads 52 = .ok (.getfield 25, 3) := by decide +kernel
theorem d_Br_tellReads_55 : decode b_Br_tellReads 55 = .ok (.iload_n 2, 1) := by decide +kernel
theorem d_Br_tellReads_56 : decode b_Br_tellReads 56 = .ok (.aload 4, 2) := by decide +kernel
theorem d_Br_tellReads_58 : decode b_Br_tellReads 58 = .ok (.invokevirtual 262, 3) := by decide +kernel
theorem d_Br_tellReads_61 : decode b_Br_tellReads 61 = .ok (.pop, 1) := by decide +kernel
theorem d_Br_tellReads_62 : decode b_Br_tellReads 62 = .ok (.iinc 2 1, 3) := by decide +kernel
theorem d_Br_tellReads_65 : decode b_Br_tellReads 65 = .ok (.iinc 3 1, 3) := by decide +kernel
theorem d_Br_tellReads_68 : decode b_Br_tellReads 68 = .ok (.goto (-56), 3) := by decide +kernel
theorem d_Br_tellReads_71 : decode b_Br_tellReads 71 = .ok (.iload_n 1, 1) := by decide +kernel
theorem d_Br_tellReads_72 : decode b_Br_tellReads 72 = .ok (.iconst 1, 1) := by decide +kernel
theorem d_Br_tellReads_73 : decode b_Br_tellReads 73 = .ok (.isub, 1) := by decide +kernel
theorem d_Br_tellReads_74 : decode b_Br_tellReads 74 = .ok (.istore_n 3, 1) := by decide +kernel
theorem d_Br_tellReads_75 : decode b_Br_tellReads 75 = .ok (.iload_n 3, 1) := by decide +kernel
theorem d_Br_tellReads_76 : decode b_Br_tellReads 76 = .ok (.iload_n 2, 1) := by decide +kernel
theorem d_Br_tellReads_77 : decode b_Br_tellReads 77 = .ok (.if_icmp .lt 18, 3) := by decide +kernel
theorem d_Br_tellReads_80 : decode b_Br_tellReads 80 = .ok (.aload_n 0, 1) := by decide +kernel
theorem d_Br_tellReads_81 : decode b_Br_tellReads 81 = .ok (.getfield 25, 3) := by decide +kernel
theorem d_Br_tellReads_84 : decode b_Br_tellReads 84 = .ok (.iload_n 3, 1) := by decide +kernel
theorem d_Br_tellReads_85 : decode b_Br_tellReads 85 = .ok (.invokevirtual 266, 3) := by decide +kernel
theorem d_Br_tellReads_88 : decode b_Br_tellReads 88 = .ok (.pop, 1) := by decide +kernel
theorem d_Br_tellReads_89 : decode b_Br_tellReads 89 = .ok (.iinc 3 (-1), 3) := by decide +kernel
theorem d_Br_tellReads_92 : decode b_Br_tellReads 92 = .ok (.goto (-17), 3) := by decide +kernel
theorem d_Br_tellReads_95 : decode b_Br_tellReads 95 = .ok (.return_, 1) := by decide +kernel
abbrev b_Br_tell : ByteArray := prog_1_method_29_code
abbrev n_Br_tell : MethodName := ⟨"BeltRows", "tell", "(LBeltRows$Edge;)V"⟩
theorem d_Br_tell_0 : decode b_Br_tell 0 = .ok (.aload_n 0, 1) := by decide +kernel
theorem d_Br_tell_1 : decode b_Br_tell 1 = .ok (.getfield 22, 3) := by decide +kernel
theorem d_Br_tell_4 : decode b_Br_tell 4 = .ok (.invokevirtual 45, 3) := by decide +kernel
theorem d_Br_tell_7 : decode b_Br_tell 7 = .ok (.sipush 4096, 3) := by decide +kernel
theorem d_Br_tell_10 : decode b_Br_tell 10 = .ok (.if_icmp .ge 12, 3) := by decide +kernel
theorem d_Br_tell_13 : decode b_Br_tell 13 = .ok (.aload_n 0, 1) := by decide +kernel
theorem d_Br_tell_14 : decode b_Br_tell 14 = .ok (.getfield 22, 3) := by decide +kernel
theorem d_Br_tell_17 : decode b_Br_tell 17 = .ok (.aload_n 1, 1) := by decide +kernel
theorem d_Br_tell_18 : decode b_Br_tell 18 = .ok (.invokevirtual 60, 3) := by decide +kernel
theorem d_Br_tell_21 : decode b_Br_tell 21 = .ok (.pop, 1) := by decide +kernel
theorem d_Br_tell_22 : decode b_Br_tell 22 = .ok (.return_, 1) := by decide +kernel
abbrev b_Br_letOut : ByteArray := prog_1_method_30_code
abbrev n_Br_letOut : MethodName := ⟨"BeltRows", "letOut", "(LBeltRows$Belt;)V"⟩
theorem d_Br_letOut_0 : decode b_Br_letOut 0 = .ok (.aload_n 1, 1) := by decide +kernel
theorem d_Br_letOut_1 : decode b_Br_letOut 1 = .ok (.invokevirtual 269, 3) := by decide +kernel
theorem d_Br_letOut_4 : decode b_Br_letOut 4 = .ok (.astore_n 2, 1) := by decide +kernel
theorem d_Br_letOut_5 : decode b_Br_letOut 5 = .ok (.aload_n 2, 1) := by decide +kernel
theorem d_Br_letOut_6 : decode b_Br_letOut 6 = .ok (.ifnull 11, 3) := by decide +kernel
theorem d_Br_letOut_9 : decode b_Br_letOut 9 = .ok (.aload_n 1, 1) := by decide +kernel
theorem d_Br_letOut_10 : decode b_Br_letOut 10 = .ok (.aload_n 2, 1) := by decide +kernel
theorem d_Br_letOut_11 : decode b_Br_letOut 11 = .ok (.invokevirtual 273, 3) := by decide +kernel
theorem d_Br_letOut_14 : decode b_Br_letOut 14 = .ok (.ifnull 4, 3) := by decide +kernel
theorem d_Br_letOut_17 : decode b_Br_letOut 17 = .ok (.return_, 1) := by decide +kernel
theorem d_Br_letOut_18 : decode b_Br_letOut 18 = .ok (.aload_n 2, 1) := by decide +kernel
theorem d_Br_letOut_19 : decode b_Br_letOut 19 = .ok (.iconst 1, 1) := by decide +kernel
theorem d_Br_letOut_20 : decode b_Br_letOut 20 = .ok (.invokevirtual 177, 3) := by decide +kernel
theorem d_Br_letOut_23 : decode b_Br_letOut 23 = .ok (.aload_n 0, 1) := by decide +kernel
theorem d_Br_letOut_24 : decode b_Br_letOut 24 = .ok (.getfield 28, 3) := by decide +kernel
theorem d_Br_letOut_27 : decode b_Br_letOut 27 = .ok (.aload_n 2, 1) := by decide +kernel
theorem d_Br_letOut_28 : decode b_Br_letOut 28 = .ok (.invokevirtual 60, 3) := by decide +kernel
theorem d_Br_letOut_31 : decode b_Br_letOut 31 = .ok (.pop, 1) := by decide +kernel
theorem d_Br_letOut_32 : decode b_Br_letOut 32 = .ok (.aload_n 0, 1) := by decide +kernel
theorem d_Br_letOut_33 : decode b_Br_letOut 33 = .ok (.dup, 1) := by decide +kernel
theorem d_Br_letOut_34 : decode b_Br_letOut 34 = .ok (.getfield 38, 3) := by decide +kernel
theorem d_Br_letOut_37 : decode b_Br_letOut 37 = .ok (.aload_n 0, 1) := by decide +kernel
theorem d_Br_letOut_38 : decode b_Br_letOut 38 = .ok (.getfield 35, 3) := by decide +kernel
theorem d_Br_letOut_41 : decode b_Br_letOut 41 = .ok (.aload_n 2, 1) := by decide +kernel
theorem d_Br_letOut_42 : decode b_Br_letOut 42 = .ok (.getfield 202, 3) := by decide +kernel
theorem d_Br_letOut_45 : decode b_Br_letOut 45 = .ok (.isub, 1) := by decide +kernel
theorem d_Br_letOut_46 : decode b_Br_letOut 46 = .ok (.iadd, 1) := by decide +kernel
theorem d_Br_letOut_47 : decode b_Br_letOut 47 = .ok (.putfield 38, 3) := by decide +kernel
theorem d_Br_letOut_50 : decode b_Br_letOut 50 = .ok (.aload_n 0, 1) := by decide +kernel
theorem d_Br_letOut_51 : decode b_Br_letOut 51 = .ok (.new 144, 3) := by decide +kernel
theorem d_Br_letOut_54 : decode b_Br_letOut 54 = .ok (.dup, 1) := by decide +kernel
theorem d_Br_letOut_55 : decode b_Br_letOut 55 = .ok (.aload_n 0, 1) := by decide +kernel
theorem d_Br_letOut_56 : decode b_Br_letOut 56 = .ok (.getfield 35, 3) := by decide +kernel
theorem d_Br_letOut_59 : decode b_Br_letOut 59 = .ok (.iconst 1, 1) := by decide +kernel
theorem d_Br_letOut_60 : decode b_Br_letOut 60 = .ok (.aload_n 2, 1) := by decide +kernel
theorem d_Br_letOut_61 : decode b_Br_letOut 61 = .ok (.getfield 116, 3) := by decide +kernel
theorem d_Br_letOut_64 : decode b_Br_letOut 64 = .ok (.aload_n 1, 1) := by decide +kernel
theorem d_Br_letOut_65 : decode b_Br_letOut 65 = .ok (.getfield 197, 3) := by decide +kernel
theorem d_Br_letOut_68 : decode b_Br_letOut 68 = .ok (.invokespecial 277, 3) := by decide +kernel
theorem d_Br_letOut_71 : decode b_Br_letOut 71 = .ok (.invokevirtual 258, 3) := by decide +kernel
theorem d_Br_letOut_74 : decode b_Br_letOut 74 = .ok (.return_, 1) := by decide +kernel
abbrev b_Br_passOnTo : ByteArray := prog_1_method_31_code
abbrev n_Br_passOnTo : MethodName := ⟨"BeltRows", "passOnTo", "(LBeltRows$Belt;)V"⟩
theorem d_Br_passOnTo_0 : decode b_Br_passOnTo 0 = .ok (.aload_n 0, 1) := by decide +kernel
theorem d_Br_passOnTo_1 : decode b_Br_passOnTo 1 = .ok (.aload_n 1, 1) := by decide +kernel
theorem d_Br_passOnTo_2 : decode b_Br_passOnTo 2 = .ok (.invokevirtual 106, 3) := by decide +kernel
theorem d_Br_passOnTo_5 : decode b_Br_passOnTo 5 = .ok (.ifCond .le 4, 3) := by decide +kernel
theorem d_Br_passOnTo_8 : decode b_Br_passOnTo 8 = .ok (.return_, 1) := by decide +kernel
theorem d_Br_passOnTo_9 : decode b_Br_passOnTo 9 = .ok (.aload_n 0, 1) := by decide +kernel
theorem d_Br_passOnTo_10 : decode b_Br_passOnTo 10 = .ok (.aload_n 1, 1) := by decide +kernel
theorem d_Br_passOnTo_11 : decode b_Br_passOnTo 11 = .ok (.invokevirtual 280, 3) := by decide +kernel
theorem d_Br_passOnTo_14 : decode b_Br_passOnTo 14 = .ok (.astore_n 2, 1) := by decide +kernel
theorem d_Br_passOnTo_15 : decode b_Br_passOnTo 15 = .ok (.aload_n 2, 1) := by decide +kernel
theorem d_Br_passOnTo_16 : decode b_Br_passOnTo 16 = .ok (.ifnonnull 4, 3) := by decide +kernel
theorem d_Br_passOnTo_19 : decode b_Br_passOnTo 19 = .ok (.return_, 1) := by decide +kernel
theorem d_Br_passOnTo_20 : decode b_Br_passOnTo 20 = .ok (.aload_n 2, 1) := by decide +kernel
theorem d_Br_passOnTo_21 : decode b_Br_passOnTo 21 = .ok (.invokevirtual 269, 3) := by decide +kernel
theorem d_Br_passOnTo_24 : decode b_Br_passOnTo 24 = .ok (.astore_n 3, 1) := by decide +kernel
theorem d_Br_passOnTo_25 : decode b_Br_passOnTo 25 = .ok (.aload_n 2, 1) := by decide +kernel
theorem d_Br_passOnTo_26 : decode b_Br_passOnTo 26 = .ok (.invokevirtual 284, 3) := by decide +kernel
theorem d_Br_passOnTo_29 : decode b_Br_passOnTo 29 = .ok (.astore 4, 2) := by decide +kernel
theorem d_Br_passOnTo_31 : decode b_Br_passOnTo 31 = .ok (.aload_n 3, 1) := by decide +kernel
theorem d_Br_passOnTo_32 : decode b_Br_passOnTo 32 = .ok (.ifnull 8, 3) := by decide +kernel
theorem d_Br_passOnTo_35 : decode b_Br_passOnTo 35 = .ok (.aload 4, 2) := by decide +kernel
theorem d_Br_passOnTo_37 : decode b_Br_passOnTo 37 = .ok (.ifnonnull 4, 3) := by decide +kernel
theorem d_Br_passOnTo_40 : decode b_Br_passOnTo 40 = .ok (.return_, 1) := by decide +kernel
theorem d_Br_passOnTo_41 : decode b_Br_passOnTo 41 = .ok (.aload 4, 2) := by decide +kernel
theorem d_Br_passOnTo_43 : decode b_Br_passOnTo 43 = .ok (.dup, 1) := by decide +kernel
theorem d_Br_passOnTo_44 : decode b_Br_passOnTo 44 = .ok (.getfield 210, 3) := by decide +kernel
theorem d_Br_passOnTo_47 : decode b_Br_passOnTo 47 = .ok (.iconst 1, 1) := by decide +kernel
theorem d_Br_passOnTo_48 : decode b_Br_passOnTo 48 = .ok (.iadd, 1) := by decide +kernel
theorem d_Br_passOnTo_49 : decode b_Br_passOnTo 49 = .ok (.putfield 210, 3) := by decide +kernel
theorem d_Br_passOnTo_52 : decode b_Br_passOnTo 52 = .ok (.aload_n 2, 1) := by decide +kernel
theorem d_Br_passOnTo_53 : decode b_Br_passOnTo 53 = .ok (.aload_n 3, 1) := by decide +kernel
theorem d_Br_passOnTo_54 : decode b_Br_passOnTo 54 = .ok (.invokevirtual 288, 3) := by decide +kernel
theorem d_Br_passOnTo_57 : decode b_Br_passOnTo 57 = .ok (.aload_n 1, 1) := by decide +kernel
theorem d_Br_passOnTo_58 : decode b_Br_passOnTo 58 = .ok (.aload_n 3, 1) := by decide +kernel
theorem d_Br_passOnTo_59 : decode b_Br_passOnTo 59 = .ok (.invokevirtual 112, 3) := by decide +kernel
theorem d_Br_passOnTo_62 : decode b_Br_passOnTo 62 = .ok (.aload_n 0, 1) := by decide +kernel
theorem d_Br_passOnTo_63 : decode b_Br_passOnTo 63 = .ok (.new 144, 3) := by decide +kernel
theorem d_Br_passOnTo_66 : decode b_Br_passOnTo 66 = .ok (.dup, 1) := by decide +kernel
theorem d_Br_passOnTo_67 : decode b_Br_passOnTo 67 = .ok (.aload_n 0, 1) := by decide +kernel
theorem d_Br_passOnTo_68 : decode b_Br_passOnTo 68 = .ok (.getfield 35, 3) := by decide +kernel
theorem d_Br_passOnTo_71 : decode b_Br_passOnTo 71 = .ok (.iconst 2, 1) := by decide +kernel
theorem d_Br_passOnTo_72 : decode b_Br_passOnTo 72 = .ok (.aload_n 3, 1) := by decide +kernel
theorem d_Br_passOnTo_73 : decode b_Br_passOnTo 73 = .ok (.getfield 116, 3) := by decide +kernel
theorem d_Br_passOnTo_76 : decode b_Br_passOnTo 76 = .ok (.aload_n 1, 1) := by decide +kernel
theorem d_Br_passOnTo_77 : decode b_Br_passOnTo 77 = .ok (.getfield 197, 3) := by decide +kernel
theorem d_Br_passOnTo_80 : decode b_Br_passOnTo 80 = .ok (.invokespecial 277, 3) := by decide +kernel
theorem d_Br_passOnTo_83 : decode b_Br_passOnTo 83 = .ok (.invokevirtual 258, 3) := by decide +kernel
theorem d_Br_passOnTo_86 : decode b_Br_passOnTo 86 = .ok (.return_, 1) := by decide +kernel
abbrev b_Br_giverTo : ByteArray := prog_1_method_32_code
abbrev n_Br_giverTo : MethodName := ⟨"BeltRows", "giverTo", "(LBeltRows$Belt;)LBeltRows$Belt;"⟩
theorem d_Br_giverTo_0 : decode b_Br_giverTo 0 = .ok (.aconst_null, 1) := by decide +kernel
theorem d_Br_giverTo_1 : decode b_Br_giverTo 1 = .ok (.astore_n 2, 1) := by decide +kernel
theorem d_Br_giverTo_2 : decode b_Br_giverTo 2 = .ok (.aconst_null, 1) := by decide +kernel
theorem d_Br_giverTo_3 : decode b_Br_giverTo 3 = .ok (.astore_n 3, 1) := by decide +kernel
theorem d_Br_giverTo_4 : decode b_Br_giverTo 4 = .ok (.iconst 0, 1) := by decide +kernel
theorem d_Br_giverTo_5 : decode b_Br_giverTo 5 = .ok (.istore 4, 2) := by decide +kernel
theorem d_Br_giverTo_7 : decode b_Br_giverTo 7 = .ok (.iload 4, 2) := by decide +kernel
theorem d_Br_giverTo_9 : decode b_Br_giverTo 9 = .ok (.aload_n 1, 1) := by decide +kernel
theorem d_Br_giverTo_10 : decode b_Br_giverTo 10 = .ok (.getfield 197, 3) := by decide +kernel
theorem d_Br_giverTo_13 : decode b_Br_giverTo 13 = .ok (.if_icmp .ge 75, 3) := by decide +kernel
theorem d_Br_giverTo_16 : decode b_Br_giverTo 16 = .ok (.iload 4, 2) := by decide +kernel
theorem d_Br_giverTo_18 : decode b_Br_giverTo 18 = .ok (.aload_n 0, 1) := by decide +kernel
theorem d_Br_giverTo_19 : decode b_Br_giverTo 19 = .ok (.getfield 10, 3) := by decide +kernel
theorem d_Br_giverTo_22 : decode b_Br_giverTo 22 = .ok (.invokevirtual 45, 3) := by decide +kernel
theorem d_Br_giverTo_25 : decode b_Br_giverTo 25 = .ok (.if_icmp .ge 63, 3) := by decide +kernel
theorem d_Br_giverTo_28 : decode b_Br_giverTo 28 = .ok (.aload_n 0, 1) := by decide +kernel
theorem d_Br_giverTo_29 : decode b_Br_giverTo 29 = .ok (.getfield 10, 3) := by decide +kernel
theorem d_Br_giverTo_32 : decode b_Br_giverTo 32 = .ok (.iload 4, 2) := by decide +kernel
theorem d_Br_giverTo_34 : decode b_Br_giverTo 34 = .ok (.invokevirtual 140, 3) := by decide +kernel
theorem d_Br_giverTo_37 : decode b_Br_giverTo 37 = .ok (.checkcast 56, 3) := by decide +kernel
theorem d_Br_giverTo_40 : decode b_Br_giverTo 40 = .ok (.astore 5, 2) := by decide +kernel
theorem d_Br_giverTo_42 : decode b_Br_giverTo 42 = .ok (.aload 5, 2) := by decide +kernel
theorem d_Br_giverTo_44 : decode b_Br_giverTo 44 = .ok (.invokevirtual 284, 3) := by decide +kernel
theorem d_Br_giverTo_47 : decode b_Br_giverTo 47 = .ok (.astore 6, 2) := by decide +kernel
theorem d_Br_giverTo_49 : decode b_Br_giverTo 49 = .ok (.aload 6, 2) := by decide +kernel
theorem d_Br_giverTo_51 : decode b_Br_giverTo 51 = .ok (.ifnull 31, 3) := by decide +kernel
theorem d_Br_giverTo_54 : decode b_Br_giverTo 54 = .ok (.aload 6, 2) := by decide +kernel
theorem d_Br_giverTo_56 : decode b_Br_giverTo 56 = .ok (.getfield 233, 3) := by decide +kernel
theorem d_Br_giverTo_59 : decode b_Br_giverTo 59 = .ok (.aload_n 1, 1) := by decide +kernel
theorem d_Br_giverTo_60 : decode b_Br_giverTo 60 = .ok (.if_acmp .ne 22, 3) := by decide +kernel
theorem d_Br_giverTo_63 : decode b_Br_giverTo 63 = .ok (.aload_n 3, 1) := by decide +kernel
theorem d_Br_giverTo_64 : decode b_Br_giverTo 64 = .ok (.ifnull 12, 3) := by decide +kernel
theorem d_Br_giverTo_67 : decode b_Br_giverTo 67 = .ok (.aload 6, 2) := by decide +kernel
theorem d_Br_giverTo_69 : decode b_Br_giverTo 69 = .ok (.aload_n 3, 1) := by decide +kernel
theorem d_Br_giverTo_70 : decode b_Br_giverTo 70 = .ok (.invokevirtual 291, 3) := by decide +kernel
theorem d_Br_giverTo_73 : decode b_Br_giverTo 73 = .ok (.ifCond .eq 9, 3) := by decide +kernel
theorem d_Br_giverTo_76 : decode b_Br_giverTo 76 = .ok (.aload 5, 2) := by decide +kernel
theorem d_Br_giverTo_78 : decode b_Br_giverTo 78 = .ok (.astore_n 2, 1) := by decide +kernel
theorem d_Br_giverTo_79 : decode b_Br_giverTo 79 = .ok (.aload 6, 2) := by decide +kernel
theorem d_Br_giverTo_81 : decode b_Br_giverTo 81 = .ok (.astore_n 3, 1) := by decide +kernel
theorem d_Br_giverTo_82 : decode b_Br_giverTo 82 = .ok (.iinc 4 1, 3) := by decide +kernel
theorem d_Br_giverTo_85 : decode b_Br_giverTo 85 = .ok (.goto (-78), 3) := by decide +kernel
theorem d_Br_giverTo_88 : decode b_Br_giverTo 88 = .ok (.aload_n 2, 1) := by decide +kernel
theorem d_Br_giverTo_89 : decode b_Br_giverTo 89 = .ok (.areturn, 1) := by decide +kernel
abbrev b_Br_moveItems : ByteArray := prog_1_method_33_code
abbrev n_Br_moveItems : MethodName := ⟨"BeltRows", "moveItems", "(LBeltRows$Belt;)V"⟩
theorem d_Br_moveItems_0 : decode b_Br_moveItems 0 = .ok (.aload_n 1, 1) := by decide +kernel
theorem d_Br_moveItems_1 : decode b_Br_moveItems 1 = .ok (.getfield 185, 3) := by decide +kernel
theorem d_Br_moveItems_4 : decode b_Br_moveItems 4 = .ok (.astore_n 2, 1) := by decide +kernel
theorem d_Br_moveItems_5 : decode b_Br_moveItems 5 = .ok (.aload_n 2, 1) := by decide +kernel
theorem d_Br_moveItems_6 : decode b_Br_moveItems 6 = .ok (.ifnull 32, 3) := by decide +kernel
theorem d_Br_moveItems_9 : decode b_Br_moveItems 9 = .ok (.aload_n 2, 1) := by decide +kernel
theorem d_Br_moveItems_10 : decode b_Br_moveItems 10 = .ok (.getfield 160, 3) := by decide +kernel
theorem d_Br_moveItems_13 : decode b_Br_moveItems 13 = .ok (.istore_n 3, 1) := by decide +kernel
theorem d_Br_moveItems_14 : decode b_Br_moveItems 14 = .ok (.aload_n 2, 1) := by decide +kernel
theorem d_Br_moveItems_15 : decode b_Br_moveItems 15 = .ok (.aload_n 1, 1) := by decide +kernel
theorem d_Br_moveItems_16 : decode b_Br_moveItems 16 = .ok (.aload_n 0, 1) := by decide +kernel
theorem d_Br_moveItems_17 : decode b_Br_moveItems 17 = .ok (.getfield 31, 3) := by decide +kernel
theorem d_Br_moveItems_20 : decode b_Br_moveItems 20 = .ok (.invokevirtual 295, 3) := by decide +kernel
theorem d_Br_moveItems_23 : decode b_Br_moveItems 23 = .ok (.aload_n 0, 1) := by decide +kernel
theorem d_Br_moveItems_24 : decode b_Br_moveItems 24 = .ok (.aload_n 1, 1) := by decide +kernel
theorem d_Br_moveItems_25 : decode b_Br_moveItems 25 = .ok (.aload_n 2, 1) := by decide +kernel
theorem d_Br_moveItems_26 : decode b_Br_moveItems 26 = .ok (.iload_n 3, 1) := by decide +kernel
theorem d_Br_moveItems_27 : decode b_Br_moveItems 27 = .ok (.invokevirtual 298, 3) := by decide +kernel
theorem d_Br_moveItems_30 : decode b_Br_moveItems 30 = .ok (.aload_n 2, 1) := by decide +kernel
theorem d_Br_moveItems_31 : decode b_Br_moveItems 31 = .ok (.getfield 168, 3) := by decide +kernel
theorem d_Br_moveItems_34 : decode b_Br_moveItems 34 = .ok (.astore_n 2, 1) := by decide +kernel
theorem d_Br_moveItems_35 : decode b_Br_moveItems 35 = .ok (.goto (-30), 3) := by decide +kernel
theorem d_Br_moveItems_38 : decode b_Br_moveItems 38 = .ok (.return_, 1) := by decide +kernel
abbrev b_Br_noteReads : ByteArray := prog_1_method_34_code
abbrev n_Br_noteReads : MethodName := ⟨"BeltRows", "noteReads", "(LBeltRows$Belt;LBeltRows$Item;I)V"⟩
theorem d_Br_noteReads_0 : decode b_Br_noteReads 0 = .ok (.iconst 0, 1) := by decide +kernel
theorem d_Br_noteReads_1 : decode b_Br_noteReads 1 = .ok (.istore 4, 2) := by decide +kernel
theorem d_Br_noteReads_3 : decode b_Br_noteReads 3 = .ok (.iload 4, 2) := by decide +kernel
theorem d_Br_noteReads_5 : decode b_Br_noteReads 5 = .ok (.aload_n 0, 1) := by decide +kernel
theorem d_Br_noteReads_6 : decode b_Br_noteReads 6 = .ok (.getfield 19, 3) := by decide +kernel
theorem d_Br_noteReads_9 : decode b_Br_noteReads 9 = .ok (.invokevirtual 45, 3) := by decide +kernel
theorem d_Br_noteReads_12 : decode b_Br_noteReads 12 = .ok (.if_icmp .ge 113, 3) := by decide +kernel
theorem d_Br_noteReads_15 : decode b_Br_noteReads 15 = .ok (.aload_n 0, 1) := by decide +kernel
theorem d_Br_noteReads_16 : decode b_Br_noteReads 16 = .ok (.getfield 19, 3) := by decide +kernel
theorem d_Br_noteReads_19 : decode b_Br_noteReads 19 = .ok (.iload 4, 2) := by decide +kernel
theorem d_Br_noteReads_21 : decode b_Br_noteReads 21 = .ok (.invokevirtual 140, 3) := by decide +kernel
theorem d_Br_noteReads_24 : decode b_Br_noteReads 24 = .ok (.checkcast 99, 3) := by decide +kernel
theorem d_Br_noteReads_27 : decode b_Br_noteReads 27 = .ok (.astore 5, 2) := by decide +kernel
theorem d_Br_noteReads_29 : decode b_Br_noteReads 29 = .ok (.aload 5, 2) := by decide +kernel
theorem d_Br_noteReads_31 : decode b_Br_noteReads 31 = .ok (.getfield 302, 3) := by decide +kernel
theorem d_Br_noteReads_34 : decode b_Br_noteReads 34 = .ok (.aload_n 1, 1) := by decide +kernel
theorem d_Br_noteReads_35 : decode b_Br_noteReads 35 = .ok (.if_acmp .ne 28, 3) := by decide +kernel
theorem d_Br_noteReads_38 : decode b_Br_noteReads 38 = .ok (.iload_n 3, 1) := by decide +kernel
theorem d_Br_noteReads_39 : decode b_Br_noteReads 39 = .ok (.aload 5, 2) := by decide +kernel
theorem d_Br_noteReads_41 : decode b_Br_noteReads 41 = .ok (.getfield 303, 3) := by decide +kernel
theorem d_Br_noteReads_44 : decode b_Br_noteReads 44 = .ok (.if_icmp .ge 19, 3) := by decide +kernel
theorem d_Br_noteReads_47 : decode b_Br_noteReads 47 = .ok (.aload_n 2, 1) := by decide +kernel
theorem d_Br_noteReads_48 : decode b_Br_noteReads 48 = .ok (.getfield 160, 3) := by decide +kernel
theorem d_Br_noteReads_51 : decode b_Br_noteReads 51 = .ok (.aload 5, 2) := by decide +kernel
theorem d_Br_noteReads_53 : decode b_Br_noteReads 53 = .ok (.getfield 303, 3) := by decide +kernel
theorem d_Br_noteReads_56 : decode b_Br_noteReads 56 = .ok (.if_icmp .lt 7, 3) := by decide +kernel
theorem d_Br_noteReads_59 : decode b_Br_noteReads 59 = .ok (.iconst 1, 1) := by decide +kernel
theorem d_Br_noteReads_60 : decode b_Br_noteReads 60 = .ok (.goto 4, 3) := by decide +kernel
theorem d_Br_noteReads_63 : decode b_Br_noteReads 63 = .ok (.iconst 0, 1) := by decide +kernel
theorem d_Br_noteReads_64 : decode b_Br_noteReads 64 = .ok (.istore 6, 2) := by decide +kernel
theorem d_Br_noteReads_66 : decode b_Br_noteReads 66 = .ok (.iload 6, 2) := by decide +kernel
theorem d_Br_noteReads_68 : decode b_Br_noteReads 68 = .ok (.ifCond .eq 51, 3) := by decide +kernel
theorem d_Br_noteReads_71 : decode b_Br_noteReads 71 = .ok (.aload_n 0, 1) := by decide +kernel
theorem d_Br_noteReads_72 : decode b_Br_noteReads 72 = .ok (.getfield 25, 3) := by decide +kernel
theorem d_Br_noteReads_75 : decode b_Br_noteReads 75 = .ok (.invokevirtual 45, 3) := by decide +kernel
theorem d_Br_noteReads_78 : decode b_Br_noteReads 78 = .ok (.sipush 4096, 3) := by decide +kernel
theorem d_Br_noteReads_81 : decode b_Br_noteReads 81 = .ok (.if_icmp .ge 38, 3) := by decide +kernel
theorem d_Br_noteReads_84 : decode b_Br_noteReads 84 = .ok (.aload_n 0, 1) := by decide +kernel
theorem d_Br_noteReads_85 : decode b_Br_noteReads 85 = .ok (.getfield 25, 3) := by decide +kernel
theorem d_Br_noteReads_88 : decode b_Br_noteReads 88 = .ok (.new 144, 3) := by decide +kernel
theorem d_Br_noteReads_91 : decode b_Br_noteReads 91 = .ok (.dup, 1) := by decide +kernel
theorem d_Br_noteReads_92 : decode b_Br_noteReads 92 = .ok (.aload_n 0, 1) := by decide +kernel
theorem d_Br_noteReads_93 : decode b_Br_noteReads 93 = .ok (.getfield 35, 3) := by decide +kernel
theorem d_Br_noteReads_96 : decode b_Br_noteReads 96 = .ok (.aload 5, 2) := by decide +kernel
theorem d_Br_noteReads_98 : decode b_Br_noteReads 98 = .ok (.getfield 304, 3) := by decide +kernel
theorem d_Br_noteReads_101 : decode b_Br_noteReads 101 = .ok (.iadd, 1) := by decide +kernel
theorem d_Br_noteReads_102 : decode b_Br_noteReads 102 = .ok (.iconst 0, 1) := by decide +kernel
theorem d_Br_noteReads_103 : decode b_Br_noteReads 103 = .ok (.aload_n 2, 1) := by decide +kernel
theorem d_Br_noteReads_104 : decode b_Br_noteReads 104 = .ok (.getfield 116, 3) := by decide +kernel
theorem d_Br_noteReads_107 : decode b_Br_noteReads 107 = .ok (.aload 5, 2) := by decide +kernel
theorem d_Br_noteReads_109 : decode b_Br_noteReads 109 = .ok (.getfield 307, 3) := by decide +kernel
theorem d_Br_noteReads_112 : decode b_Br_noteReads 112 = .ok (.invokespecial 277, 3) := by decide +kernel
theorem d_Br_noteReads_115 : decode b_Br_noteReads 115 = .ok (.invokevirtual 60, 3) := by decide +kernel
theorem d_Br_noteReads_118 : decode b_Br_noteReads 118 = .ok (.pop, 1) := by decide +kernel
theorem d_Br_noteReads_119 : decode b_Br_noteReads 119 = .ok (.iinc 4 1, 3) := by decide +kernel
theorem d_Br_noteReads_122 : decode b_Br_noteReads 122 = .ok (.goto (-119), 3) := by decide +kernel
theorem d_Br_noteReads_125 : decode b_Br_noteReads 125 = .ok (.return_, 1) := by decide +kernel
abbrev b_Br_edge : ByteArray := prog_1_method_10_code
abbrev n_Br_edge : MethodName := ⟨"BeltRows", "edge", "(II)I"⟩
theorem d_Br_edge_0 : decode b_Br_edge 0 = .ok (.iload_n 1, 1) := by decide +kernel
theorem d_Br_edge_1 : decode b_Br_edge 1 = .ok (.ifCond .lt 14, 3) := by decide +kernel
theorem d_Br_edge_4 : decode b_Br_edge 4 = .ok (.iload_n 1, 1) := by decide +kernel
theorem d_Br_edge_5 : decode b_Br_edge 5 = .ok (.aload_n 0, 1) := by decide +kernel
theorem d_Br_edge_6 : decode b_Br_edge 6 = .ok (.getfield 22, 3) := by decide +kernel
theorem d_Br_edge_9 : decode b_Br_edge 9 = .ok (.invokevirtual 45, 3) := by decide +kernel
theorem d_Br_edge_12 : decode b_Br_edge 12 = .ok (.if_icmp .lt 13, 3) := by decide +kernel
theorem d_Br_edge_15 : decode b_Br_edge 15 = .ok (.new 135, 3) := by decide +kernel
theorem d_Br_edge_18 : decode b_Br_edge 18 = .ok (.dup, 1) := by decide +kernel
theorem d_Br_edge_19 : decode b_Br_edge 19 = .ok (.ldc 137, 2) := by decide +kernel
theorem d_Br_edge_21 : decode b_Br_edge 21 = .ok (.invokespecial 139, 3) := by decide +kernel
theorem d_Br_edge_24 : decode b_Br_edge 24 = .ok (.athrow, 1) := by decide +kernel
theorem d_Br_edge_25 : decode b_Br_edge 25 = .ok (.aload_n 0, 1) := by decide +kernel
theorem d_Br_edge_26 : decode b_Br_edge 26 = .ok (.getfield 22, 3) := by decide +kernel
theorem d_Br_edge_29 : decode b_Br_edge 29 = .ok (.iload_n 1, 1) := by decide +kernel
theorem d_Br_edge_30 : decode b_Br_edge 30 = .ok (.invokevirtual 140, 3) := by decide +kernel
theorem d_Br_edge_33 : decode b_Br_edge 33 = .ok (.checkcast 144, 3) := by decide +kernel
theorem d_Br_edge_36 : decode b_Br_edge 36 = .ok (.astore_n 3, 1) := by decide +kernel
theorem d_Br_edge_37 : decode b_Br_edge 37 = .ok (.iload_n 2, 1) := by decide +kernel
theorem d_Br_edge_38 : decode b_Br_edge 38 = .ok (.tableswitch 50 0 3 #[30, 35, 40, 45], 30) := by decide +kernel
theorem d_Br_edge_68 : decode b_Br_edge 68 = .ok (.aload_n 3, 1) := by decide +kernel
theorem d_Br_edge_69 : decode b_Br_edge 69 = .ok (.getfield 146, 3) := by decide +kernel
theorem d_Br_edge_72 : decode b_Br_edge 72 = .ok (.ireturn, 1) := by decide +kernel
theorem d_Br_edge_73 : decode b_Br_edge 73 = .ok (.aload_n 3, 1) := by decide +kernel
theorem d_Br_edge_74 : decode b_Br_edge 74 = .ok (.getfield 149, 3) := by decide +kernel
theorem d_Br_edge_77 : decode b_Br_edge 77 = .ok (.ireturn, 1) := by decide +kernel
theorem d_Br_edge_78 : decode b_Br_edge 78 = .ok (.aload_n 3, 1) := by decide +kernel
theorem d_Br_edge_79 : decode b_Br_edge 79 = .ok (.getfield 152, 3) := by decide +kernel
theorem d_Br_edge_82 : decode b_Br_edge 82 = .ok (.ireturn, 1) := by decide +kernel
theorem d_Br_edge_83 : decode b_Br_edge 83 = .ok (.aload_n 3, 1) := by decide +kernel
theorem d_Br_edge_84 : decode b_Br_edge 84 = .ok (.getfield 155, 3) := by decide +kernel
theorem d_Br_edge_87 : decode b_Br_edge 87 = .ok (.ireturn, 1) := by decide +kernel
theorem d_Br_edge_88 : decode b_Br_edge 88 = .ok (.new 68, 3) := by decide +kernel
theorem d_Br_edge_91 : decode b_Br_edge 91 = .ok (.dup, 1) := by decide +kernel
theorem d_Br_edge_92 : decode b_Br_edge 92 = .ok (.ldc 158, 2) := by decide +kernel
theorem d_Br_edge_94 : decode b_Br_edge 94 = .ok (.invokespecial 72, 3) := by decide +kernel
theorem d_Br_edge_97 : decode b_Br_edge 97 = .ok (.athrow, 1) := by decide +kernel
abbrev b_Br_slip : ByteArray := prog_1_method_11_code
abbrev n_Br_slip : MethodName := ⟨"BeltRows", "slip", "(II)I"⟩
theorem d_Br_slip_0 : decode b_Br_slip 0 = .ok (.aload_n 0, 1) := by decide +kernel
theorem d_Br_slip_1 : decode b_Br_slip 1 = .ok (.iload_n 1, 1) := by decide +kernel
theorem d_Br_slip_2 : decode b_Br_slip 2 = .ok (.invokevirtual 119, 3) := by decide +kernel
theorem d_Br_slip_5 : decode b_Br_slip 5 = .ok (.astore_n 3, 1) := by decide +kernel
theorem d_Br_slip_6 : decode b_Br_slip 6 = .ok (.iload_n 2, 1) := by decide +kernel
theorem d_Br_slip_7 : decode b_Br_slip 7 = .ok (.iconst 1, 1) := by decide +kernel
theorem d_Br_slip_8 : decode b_Br_slip 8 = .ok (.sipush 1000, 3) := by decide +kernel
theorem d_Br_slip_11 : decode b_Br_slip 11 = .ok (.invokestatic 41, 3) := by decide +kernel
theorem d_Br_slip_14 : decode b_Br_slip 14 = .ok (.aload_n 3, 1) := by decide +kernel
theorem d_Br_slip_15 : decode b_Br_slip 15 = .ok (.invokestatic 123, 3) := by decide +kernel
theorem d_Br_slip_18 : decode b_Br_slip 18 = .ok (.aload_n 3, 1) := by decide +kernel
theorem d_Br_slip_19 : decode b_Br_slip 19 = .ok (.getfield 160, 3) := by decide +kernel
theorem d_Br_slip_22 : decode b_Br_slip 22 = .ok (.iload_n 2, 1) := by decide +kernel
theorem d_Br_slip_23 : decode b_Br_slip 23 = .ok (.if_icmp .ge 13, 3) := by decide +kernel
theorem d_Br_slip_26 : decode b_Br_slip 26 = .ok (.new 163, 3) := by decide +kernel
theorem d_Br_slip_29 : decode b_Br_slip 29 = .ok (.dup, 1) := by decide +kernel
theorem d_Br_slip_30 : decode b_Br_slip 30 = .ok (.ldc 165, 2) := by decide +kernel
theorem d_Br_slip_32 : decode b_Br_slip 32 = .ok (.invokespecial 167, 3) := by decide +kernel
theorem d_Br_slip_35 : decode b_Br_slip 35 = .ok (.athrow, 1) := by decide +kernel
theorem d_Br_slip_36 : decode b_Br_slip 36 = .ok (.aload_n 3, 1) := by decide +kernel
theorem d_Br_slip_37 : decode b_Br_slip 37 = .ok (.getfield 168, 3) := by decide +kernel
theorem d_Br_slip_40 : decode b_Br_slip 40 = .ok (.astore 4, 2) := by decide +kernel
theorem d_Br_slip_42 : decode b_Br_slip 42 = .ok (.aload 4, 2) := by decide +kernel
theorem d_Br_slip_44 : decode b_Br_slip 44 = .ok (.ifnull 32, 3) := by decide +kernel
theorem d_Br_slip_47 : decode b_Br_slip 47 = .ok (.aload_n 3, 1) := by decide +kernel
theorem d_Br_slip_48 : decode b_Br_slip 48 = .ok (.invokevirtual 172, 3) := by decide +kernel
theorem d_Br_slip_51 : decode b_Br_slip 51 = .ok (.iload_n 2, 1) := by decide +kernel
theorem d_Br_slip_52 : decode b_Br_slip 52 = .ok (.isub, 1) := by decide +kernel
theorem d_Br_slip_53 : decode b_Br_slip 53 = .ok (.aload 4, 2) := by decide +kernel
theorem d_Br_slip_55 : decode b_Br_slip 55 = .ok (.getfield 160, 3) := by decide +kernel
theorem d_Br_slip_58 : decode b_Br_slip 58 = .ok (.isub, 1) := by decide +kernel
theorem d_Br_slip_59 : decode b_Br_slip 59 = .ok (.aload_n 0, 1) := by decide +kernel
theorem d_Br_slip_60 : decode b_Br_slip 60 = .ok (.getfield 31, 3) := by decide +kernel
theorem d_Br_slip_63 : decode b_Br_slip 63 = .ok (.if_icmp .ge 13, 3) := by decide +kernel
theorem d_Br_slip_66 : decode b_Br_slip 66 = .ok (.new 163, 3) := by decide +kernel
theorem d_Br_slip_69 : decode b_Br_slip 69 = .ok (.dup, 1) := by decide +kernel
theorem d_Br_slip_70 : decode b_Br_slip 70 = .ok (.ldc 175, 2) := by decide +kernel
theorem d_Br_slip_72 : decode b_Br_slip 72 = .ok (.invokespecial 167, 3) := by decide +kernel
theorem d_Br_slip_75 : decode b_Br_slip 75 = .ok (.athrow, 1) := by decide +kernel
theorem d_Br_slip_76 : decode b_Br_slip 76 = .ok (.aload_n 3, 1) := by decide +kernel
theorem d_Br_slip_77 : decode b_Br_slip 77 = .ok (.dup, 1) := by decide +kernel
theorem d_Br_slip_78 : decode b_Br_slip 78 = .ok (.getfield 160, 3) := by decide +kernel
theorem d_Br_slip_81 : decode b_Br_slip 81 = .ok (.iload_n 2, 1) := by decide +kernel
theorem d_Br_slip_82 : decode b_Br_slip 82 = .ok (.isub, 1) := by decide +kernel
theorem d_Br_slip_83 : decode b_Br_slip 83 = .ok (.putfield 160, 3) := by decide +kernel
theorem d_Br_slip_86 : decode b_Br_slip 86 = .ok (.aload_n 3, 1) := by decide +kernel
theorem d_Br_slip_87 : decode b_Br_slip 87 = .ok (.getfield 160, 3) := by decide +kernel
theorem d_Br_slip_90 : decode b_Br_slip 90 = .ok (.ireturn, 1) := by decide +kernel
abbrev b_Br_take : ByteArray := prog_1_method_12_code
abbrev n_Br_take : MethodName := ⟨"BeltRows", "take", "(I)V"⟩
theorem d_Br_take_0 : decode b_Br_take 0 = .ok (.aload_n 0, 1) := by decide +kernel
theorem d_Br_take_1 : decode b_Br_take 1 = .ok (.iload_n 1, 1) := by decide +kernel
theorem d_Br_take_2 : decode b_Br_take 2 = .ok (.invokevirtual 119, 3) := by decide +kernel
theorem d_Br_take_5 : decode b_Br_take 5 = .ok (.astore_n 2, 1) := by decide +kernel
theorem d_Br_take_6 : decode b_Br_take 6 = .ok (.aload_n 2, 1) := by decide +kernel
theorem d_Br_take_7 : decode b_Br_take 7 = .ok (.invokestatic 123, 3) := by decide +kernel
theorem d_Br_take_10 : decode b_Br_take 10 = .ok (.aload_n 2, 1) := by decide +kernel
theorem d_Br_take_11 : decode b_Br_take 11 = .ok (.iconst 2, 1) := by decide +kernel
theorem d_Br_take_12 : decode b_Br_take 12 = .ok (.invokevirtual 177, 3) := by decide +kernel
theorem d_Br_take_15 : decode b_Br_take 15 = .ok (.return_, 1) := by decide +kernel
abbrev b_Br_clean : ByteArray := prog_1_method_13_code
abbrev n_Br_clean : MethodName := ⟨"BeltRows", "clean", "(I)I"⟩
theorem d_Br_clean_0 : decode b_Br_clean 0 = .ok (.aload_n 0, 1) := by decide +kernel
theorem d_Br_clean_1 : decode b_Br_clean 1 = .ok (.iload_n 1, 1) := by decide +kernel
theorem d_Br_clean_2 : decode b_Br_clean 2 = .ok (.invokevirtual 64, 3) := by decide +kernel
theorem d_Br_clean_5 : decode b_Br_clean 5 = .ok (.astore_n 2, 1) := by decide +kernel
theorem d_Br_clean_6 : decode b_Br_clean 6 = .ok (.aload_n 2, 1) := by decide +kernel
theorem d_Br_clean_7 : decode b_Br_clean 7 = .ok (.getfield 90, 3) := by decide +kernel
theorem d_Br_clean_10 : decode b_Br_clean 10 = .ok (.ifCond .eq 13, 3) := by decide +kernel
theorem d_Br_clean_13 : decode b_Br_clean 13 = .ok (.new 163, 3) := by decide +kernel
theorem d_Br_clean_16 : decode b_Br_clean 16 = .ok (.dup, 1) := by decide +kernel
theorem d_Br_clean_17 : decode b_Br_clean 17 = .ok (.ldc 181, 2) := by decide +kernel
theorem d_Br_clean_19 : decode b_Br_clean 19 = .ok (.invokespecial 167, 3) := by decide +kernel
theorem d_Br_clean_22 : decode b_Br_clean 22 = .ok (.athrow, 1) := by decide +kernel
theorem d_Br_clean_23 : decode b_Br_clean 23 = .ok (.aload_n 2, 1) := by decide +kernel
theorem d_Br_clean_24 : decode b_Br_clean 24 = .ok (.getfield 183, 3) := by decide +kernel
theorem d_Br_clean_27 : decode b_Br_clean 27 = .ok (.istore_n 3, 1) := by decide +kernel
theorem d_Br_clean_28 : decode b_Br_clean 28 = .ok (.iconst 0, 1) := by decide +kernel
theorem d_Br_clean_29 : decode b_Br_clean 29 = .ok (.istore 4, 2) := by decide +kernel
theorem d_Br_clean_31 : decode b_Br_clean 31 = .ok (.iload 4, 2) := by decide +kernel
theorem d_Br_clean_33 : decode b_Br_clean 33 = .ok (.iload_n 3, 1) := by decide +kernel
theorem d_Br_clean_34 : decode b_Br_clean 34 = .ok (.if_icmp .ge 24, 3) := by decide +kernel
theorem d_Br_clean_37 : decode b_Br_clean 37 = .ok (.aload_n 2, 1) := by decide +kernel
theorem d_Br_clean_38 : decode b_Br_clean 38 = .ok (.getfield 185, 3) := by decide +kernel
theorem d_Br_clean_41 : decode b_Br_clean 41 = .ok (.ifnull 17, 3) := by decide +kernel
theorem d_Br_clean_44 : decode b_Br_clean 44 = .ok (.aload_n 2, 1) := by decide +kernel
theorem d_Br_clean_45 : decode b_Br_clean 45 = .ok (.getfield 185, 3) := by decide +kernel
theorem d_Br_clean_48 : decode b_Br_clean 48 = .ok (.iconst 2, 1) := by decide +kernel
theorem d_Br_clean_49 : decode b_Br_clean 49 = .ok (.invokevirtual 177, 3) := by decide +kernel
theorem d_Br_clean_52 : decode b_Br_clean 52 = .ok (.iinc 4 1, 3) := by decide +kernel
theorem d_Br_clean_55 : decode b_Br_clean 55 = .ok (.goto (-24), 3) := by decide +kernel
theorem d_Br_clean_58 : decode b_Br_clean 58 = .ok (.iload_n 3, 1) := by decide +kernel
theorem d_Br_clean_59 : decode b_Br_clean 59 = .ok (.ireturn, 1) := by decide +kernel
abbrev b_Br_gap : ByteArray := prog_1_method_14_code
abbrev n_Br_gap : MethodName := ⟨"BeltRows", "gap", "(II)I"⟩
theorem d_Br_gap_0 : decode b_Br_gap 0 = .ok (.aload_n 0, 1) := by decide +kernel
theorem d_Br_gap_1 : decode b_Br_gap 1 = .ok (.iload_n 1, 1) := by decide +kernel
theorem d_Br_gap_2 : decode b_Br_gap 2 = .ok (.invokevirtual 119, 3) := by decide +kernel
theorem d_Br_gap_5 : decode b_Br_gap 5 = .ok (.astore_n 3, 1) := by decide +kernel
theorem d_Br_gap_6 : decode b_Br_gap 6 = .ok (.aload_n 0, 1) := by decide +kernel
theorem d_Br_gap_7 : decode b_Br_gap 7 = .ok (.iload_n 2, 1) := by decide +kernel
theorem d_Br_gap_8 : decode b_Br_gap 8 = .ok (.invokevirtual 119, 3) := by decide +kernel
theorem d_Br_gap_11 : decode b_Br_gap 11 = .ok (.astore 4, 2) := by decide +kernel
theorem d_Br_gap_13 : decode b_Br_gap 13 = .ok (.aload_n 3, 1) := by decide +kernel
theorem d_Br_gap_14 : decode b_Br_gap 14 = .ok (.invokestatic 123, 3) := by decide +kernel
theorem d_Br_gap_17 : decode b_Br_gap 17 = .ok (.aload 4, 2) := by decide +kernel
theorem d_Br_gap_19 : decode b_Br_gap 19 = .ok (.invokestatic 123, 3) := by decide +kernel
theorem d_Br_gap_22 : decode b_Br_gap 22 = .ok (.aload_n 3, 1) := by decide +kernel
theorem d_Br_gap_23 : decode b_Br_gap 23 = .ok (.getfield 188, 3) := by decide +kernel
theorem d_Br_gap_26 : decode b_Br_gap 26 = .ok (.aload 4, 2) := by decide +kernel
theorem d_Br_gap_28 : decode b_Br_gap 28 = .ok (.getfield 188, 3) := by decide +kernel
theorem d_Br_gap_31 : decode b_Br_gap 31 = .ok (.if_acmp .ne 9, 3) := by decide +kernel
theorem d_Br_gap_34 : decode b_Br_gap 34 = .ok (.aload_n 3, 1) := by decide +kernel
theorem d_Br_gap_35 : decode b_Br_gap 35 = .ok (.aload 4, 2) := by decide +kernel
theorem d_Br_gap_37 : decode b_Br_gap 37 = .ok (.if_acmp .ne 13, 3) := by decide +kernel
theorem d_Br_gap_40 : decode b_Br_gap 40 = .ok (.new 163, 3) := by decide +kernel
theorem d_Br_gap_43 : decode b_Br_gap 43 = .ok (.dup, 1) := by decide +kernel
theorem d_Br_gap_44 : decode b_Br_gap 44 = .ok (.ldc 192, 2) := by decide +kernel
theorem d_Br_gap_46 : decode b_Br_gap 46 = .ok (.invokespecial 167, 3) := by decide +kernel
theorem d_Br_gap_49 : decode b_Br_gap 49 = .ok (.athrow, 1) := by decide +kernel
theorem d_Br_gap_50 : decode b_Br_gap 50 = .ok (.aload_n 3, 1) := by decide +kernel
theorem d_Br_gap_51 : decode b_Br_gap 51 = .ok (.getfield 160, 3) := by decide +kernel
theorem d_Br_gap_54 : decode b_Br_gap 54 = .ok (.aload 4, 2) := by decide +kernel
theorem d_Br_gap_56 : decode b_Br_gap 56 = .ok (.getfield 160, 3) := by decide +kernel
theorem d_Br_gap_59 : decode b_Br_gap 59 = .ok (.if_icmp .le 16, 3) := by decide +kernel
theorem d_Br_gap_62 : decode b_Br_gap 62 = .ok (.aload_n 3, 1) := by decide +kernel
theorem d_Br_gap_63 : decode b_Br_gap 63 = .ok (.invokevirtual 172, 3) := by decide +kernel
theorem d_Br_gap_66 : decode b_Br_gap 66 = .ok (.aload 4, 2) := by decide +kernel
theorem d_Br_gap_68 : decode b_Br_gap 68 = .ok (.getfield 160, 3) := by decide +kernel
theorem d_Br_gap_71 : decode b_Br_gap 71 = .ok (.isub, 1) := by decide +kernel
theorem d_Br_gap_72 : decode b_Br_gap 72 = .ok (.goto 13, 3) := by decide +kernel
theorem d_Br_gap_75 : decode b_Br_gap 75 = .ok (.aload 4, 2) := by decide +kernel
theorem d_Br_gap_77 : decode b_Br_gap 77 = .ok (.invokevirtual 172, 3) := by decide +kernel
theorem d_Br_gap_80 : decode b_Br_gap 80 = .ok (.aload_n 3, 1) := by decide +kernel
theorem d_Br_gap_81 : decode b_Br_gap 81 = .ok (.getfield 160, 3) := by decide +kernel
theorem d_Br_gap_84 : decode b_Br_gap 84 = .ok (.isub, 1) := by decide +kernel
theorem d_Br_gap_85 : decode b_Br_gap 85 = .ok (.ireturn, 1) := by decide +kernel
abbrev b_Br_told : ByteArray := prog_1_method_15_code
abbrev n_Br_told : MethodName := ⟨"BeltRows", "told", "(II)I"⟩
theorem d_Br_told_0 : decode b_Br_told 0 = .ok (.aload_n 0, 1) := by decide +kernel
theorem d_Br_told_1 : decode b_Br_told 1 = .ok (.iload_n 1, 1) := by decide +kernel
theorem d_Br_told_2 : decode b_Br_told 2 = .ok (.invokevirtual 119, 3) := by decide +kernel
theorem d_Br_told_5 : decode b_Br_told 5 = .ok (.astore_n 3, 1) := by decide +kernel
theorem d_Br_told_6 : decode b_Br_told 6 = .ok (.aload_n 3, 1) := by decide +kernel
theorem d_Br_told_7 : decode b_Br_told 7 = .ok (.getfield 194, 3) := by decide +kernel
theorem d_Br_told_10 : decode b_Br_told 10 = .ok (.ifCond .ne 7, 3) := by decide +kernel
theorem d_Br_told_13 : decode b_Br_told 13 = .ok (.iconst 1, 1) := by decide +kernel
theorem d_Br_told_14 : decode b_Br_told 14 = .ok (.goto 4, 3) := by decide +kernel
theorem d_Br_told_17 : decode b_Br_told 17 = .ok (.iconst 0, 1) := by decide +kernel
theorem d_Br_told_18 : decode b_Br_told 18 = .ok (.istore 4, 2) := by decide +kernel
theorem d_Br_told_20 : decode b_Br_told 20 = .ok (.iload_n 2, 1) := by decide +kernel
theorem d_Br_told_21 : decode b_Br_told 21 = .ok (.tableswitch 110 0 6 #[43, 48, 67, 81, 86, 91, 105], 43) := by decide +kernel
theorem d_Br_told_64 : decode b_Br_told 64 = .ok (.aload_n 3, 1) := by decide +kernel
theorem d_Br_told_65 : decode b_Br_told 65 = .ok (.getfield 194, 3) := by decide +kernel
theorem d_Br_told_68 : decode b_Br_told 68 = .ok (.ireturn, 1) := by decide +kernel
theorem d_Br_told_69 : decode b_Br_told 69 = .ok (.aload_n 3, 1) := by decide +kernel
theorem d_Br_told_70 : decode b_Br_told 70 = .ok (.getfield 188, 3) := by decide +kernel
theorem d_Br_told_73 : decode b_Br_told 73 = .ok (.ifnonnull 7, 3) := by decide +kernel
theorem d_Br_told_76 : decode b_Br_told 76 = .ok (.iconst (-1), 1) := by decide +kernel
theorem d_Br_told_77 : decode b_Br_told 77 = .ok (.goto 10, 3) := by decide +kernel
theorem d_Br_told_80 : decode b_Br_told 80 = .ok (.aload_n 3, 1) := by decide +kernel
theorem d_Br_told_81 : decode b_Br_told 81 = .ok (.getfield 188, 3) := by decide +kernel
theorem d_Br_told_84 : decode b_Br_told 84 = .ok (.getfield 197, 3) := by decide +kernel
theorem d_Br_told_87 : decode b_Br_told 87 = .ok (.ireturn, 1) := by decide +kernel
theorem d_Br_told_88 : decode b_Br_told 88 = .ok (.iload 4, 2) := by decide +kernel
theorem d_Br_told_90 : decode b_Br_told 90 = .ok (.ifCond .eq 10, 3) := by decide +kernel
theorem d_Br_told_93 : decode b_Br_told 93 = .ok (.aload_n 3, 1) := by decide +kernel
theorem d_Br_told_94 : decode b_Br_told 94 = .ok (.getfield 160, 3) := by decide +kernel
theorem d_Br_told_97 : decode b_Br_told 97 = .ok (.goto 4, 3) := by decide +kernel
theorem d_Br_told_100 : decode b_Br_told 100 = .ok (.iconst (-1), 1) := by decide +kernel
theorem d_Br_told_101 : decode b_Br_told 101 = .ok (.ireturn, 1) := by decide +kernel
theorem d_Br_told_102 : decode b_Br_told 102 = .ok (.aload_n 3, 1) := by decide +kernel
theorem d_Br_told_103 : decode b_Br_told 103 = .ok (.getfield 198, 3) := by decide +kernel
theorem d_Br_told_106 : decode b_Br_told 106 = .ok (.ireturn, 1) := by decide +kernel
theorem d_Br_told_107 : decode b_Br_told 107 = .ok (.aload_n 3, 1) := by decide +kernel
theorem d_Br_told_108 : decode b_Br_told 108 = .ok (.getfield 129, 3) := by decide +kernel
theorem d_Br_told_111 : decode b_Br_told 111 = .ok (.ireturn, 1) := by decide +kernel
theorem d_Br_told_112 : decode b_Br_told 112 = .ok (.iload 4, 2) := by decide +kernel
theorem d_Br_told_114 : decode b_Br_told 114 = .ok (.ifCond .eq 10, 3) := by decide +kernel
theorem d_Br_told_117 : decode b_Br_told 117 = .ok (.aload_n 3, 1) := by decide +kernel
theorem d_Br_told_118 : decode b_Br_told 118 = .ok (.getfield 199, 3) := by decide +kernel
theorem d_Br_told_121 : decode b_Br_told 121 = .ok (.goto 4, 3) := by decide +kernel
theorem d_Br_told_124 : decode b_Br_told 124 = .ok (.iconst (-1), 1) := by decide +kernel
theorem d_Br_told_125 : decode b_Br_told 125 = .ok (.ireturn, 1) := by decide +kernel
theorem d_Br_told_126 : decode b_Br_told 126 = .ok (.aload_n 3, 1) := by decide +kernel
theorem d_Br_told_127 : decode b_Br_told 127 = .ok (.getfield 202, 3) := by decide +kernel
theorem d_Br_told_130 : decode b_Br_told 130 = .ok (.ireturn, 1) := by decide +kernel
theorem d_Br_told_131 : decode b_Br_told 131 = .ok (.new 68, 3) := by decide +kernel
theorem d_Br_told_134 : decode b_Br_told 134 = .ok (.dup, 1) := by decide +kernel
theorem d_Br_told_135 : decode b_Br_told 135 = .ok (.ldc 205, 2) := by decide +kernel
theorem d_Br_told_137 : decode b_Br_told 137 = .ok (.invokespecial 72, 3) := by decide +kernel
theorem d_Br_told_140 : decode b_Br_told 140 = .ok (.athrow, 1) := by decide +kernel
abbrev b_Br_known : ByteArray := prog_1_method_16_code
abbrev n_Br_known : MethodName := ⟨"BeltRows", "known", "(II)I"⟩
theorem d_Br_known_0 : decode b_Br_known 0 = .ok (.aload_n 0, 1) := by decide +kernel
theorem d_Br_known_1 : decode b_Br_known 1 = .ok (.iload_n 1, 1) := by decide +kernel
theorem d_Br_known_2 : decode b_Br_known 2 = .ok (.invokevirtual 64, 3) := by decide +kernel
theorem d_Br_known_5 : decode b_Br_known 5 = .ok (.astore_n 3, 1) := by decide +kernel
theorem d_Br_known_6 : decode b_Br_known 6 = .ok (.iload_n 2, 1) := by decide +kernel
theorem d_Br_known_7 : decode b_Br_known 7 = .ok (.tableswitch 132 0 8 #[49, 54, 59, 72, 77, 96, 105, 114, 123], 49) := by decide +kernel
theorem d_Br_known_56 : decode b_Br_known 56 = .ok (.aload_n 3, 1) := by decide +kernel
theorem d_Br_known_57 : decode b_Br_known 57 = .ok (.getfield 94, 3) := by decide +kernel
theorem d_Br_known_60 : decode b_Br_known 60 = .ok (.ireturn, 1) := by decide +kernel
theorem d_Br_known_61 : decode b_Br_known 61 = .ok (.aload_n 3, 1) := by decide +kernel
theorem d_Br_known_62 : decode b_Br_known 62 = .ok (.getfield 87, 3) := by decide +kernel
theorem d_Br_known_65 : decode b_Br_known 65 = .ok (.ireturn, 1) := by decide +kernel
theorem d_Br_known_66 : decode b_Br_known 66 = .ok (.aload_n 3, 1) := by decide +kernel
theorem d_Br_known_67 : decode b_Br_known 67 = .ok (.getfield 90, 3) := by decide +kernel
theorem d_Br_known_70 : decode b_Br_known 70 = .ok (.ifCond .eq 7, 3) := by decide +kernel
theorem d_Br_known_73 : decode b_Br_known 73 = .ok (.iconst 1, 1) := by decide +kernel
theorem d_Br_known_74 : decode b_Br_known 74 = .ok (.goto 4, 3) := by decide +kernel
theorem d_Br_known_77 : decode b_Br_known 77 = .ok (.iconst 0, 1) := by decide +kernel
theorem d_Br_known_78 : decode b_Br_known 78 = .ok (.ireturn, 1) := by decide +kernel
theorem d_Br_known_79 : decode b_Br_known 79 = .ok (.aload_n 3, 1) := by decide +kernel
theorem d_Br_known_80 : decode b_Br_known 80 = .ok (.getfield 183, 3) := by decide +kernel
theorem d_Br_known_83 : decode b_Br_known 83 = .ok (.ireturn, 1) := by decide +kernel
theorem d_Br_known_84 : decode b_Br_known 84 = .ok (.aload_n 3, 1) := by decide +kernel
theorem d_Br_known_85 : decode b_Br_known 85 = .ok (.getfield 185, 3) := by decide +kernel
theorem d_Br_known_88 : decode b_Br_known 88 = .ok (.ifnonnull 7, 3) := by decide +kernel
theorem d_Br_known_91 : decode b_Br_known 91 = .ok (.iconst (-1), 1) := by decide +kernel
theorem d_Br_known_92 : decode b_Br_known 92 = .ok (.goto 10, 3) := by decide +kernel
theorem d_Br_known_95 : decode b_Br_known 95 = .ok (.aload_n 3, 1) := by decide +kernel
theorem d_Br_known_96 : decode b_Br_known 96 = .ok (.getfield 185, 3) := by decide +kernel
theorem d_Br_known_99 : decode b_Br_known 99 = .ok (.getfield 116, 3) := by decide +kernel
theorem d_Br_known_102 : decode b_Br_known 102 = .ok (.ireturn, 1) := by decide +kernel
theorem d_Br_known_103 : decode b_Br_known 103 = .ok (.aload_n 3, 1) := by decide +kernel
theorem d_Br_known_104 : decode b_Br_known 104 = .ok (.iconst 0, 1) := by decide +kernel
theorem d_Br_known_105 : decode b_Br_known 105 = .ok (.invokevirtual 73, 3) := by decide +kernel
theorem d_Br_known_108 : decode b_Br_known 108 = .ok (.invokevirtual 207, 3) := by decide +kernel
theorem d_Br_known_111 : decode b_Br_known 111 = .ok (.ireturn, 1) := by decide +kernel
theorem d_Br_known_112 : decode b_Br_known 112 = .ok (.aload_n 3, 1) := by decide +kernel
theorem d_Br_known_113 : decode b_Br_known 113 = .ok (.iconst 1, 1) := by decide +kernel
theorem d_Br_known_114 : decode b_Br_known 114 = .ok (.invokevirtual 73, 3) := by decide +kernel
theorem d_Br_known_117 : decode b_Br_known 117 = .ok (.invokevirtual 207, 3) := by decide +kernel
theorem d_Br_known_120 : decode b_Br_known 120 = .ok (.ireturn, 1) := by decide +kernel
theorem d_Br_known_121 : decode b_Br_known 121 = .ok (.aload_n 3, 1) := by decide +kernel
theorem d_Br_known_122 : decode b_Br_known 122 = .ok (.iconst 0, 1) := by decide +kernel
theorem d_Br_known_123 : decode b_Br_known 123 = .ok (.invokevirtual 73, 3) := by decide +kernel
theorem d_Br_known_126 : decode b_Br_known 126 = .ok (.getfield 210, 3) := by decide +kernel
theorem d_Br_known_129 : decode b_Br_known 129 = .ok (.ireturn, 1) := by decide +kernel
theorem d_Br_known_130 : decode b_Br_known 130 = .ok (.aload_n 3, 1) := by decide +kernel
theorem d_Br_known_131 : decode b_Br_known 131 = .ok (.iconst 1, 1) := by decide +kernel
theorem d_Br_known_132 : decode b_Br_known 132 = .ok (.invokevirtual 73, 3) := by decide +kernel
theorem d_Br_known_135 : decode b_Br_known 135 = .ok (.getfield 210, 3) := by decide +kernel
theorem d_Br_known_138 : decode b_Br_known 138 = .ok (.ireturn, 1) := by decide +kernel
theorem d_Br_known_139 : decode b_Br_known 139 = .ok (.new 68, 3) := by decide +kernel
theorem d_Br_known_142 : decode b_Br_known 142 = .ok (.dup, 1) := by decide +kernel
theorem d_Br_known_143 : decode b_Br_known 143 = .ok (.ldc 213, 2) := by decide +kernel
theorem d_Br_known_145 : decode b_Br_known 145 = .ok (.invokespecial 72, 3) := by decide +kernel
theorem d_Br_known_148 : decode b_Br_known 148 = .ok (.athrow, 1) := by decide +kernel
abbrev b_Br_order : ByteArray := prog_1_method_17_code
abbrev n_Br_order : MethodName := ⟨"BeltRows", "order", "(I)I"⟩
theorem d_Br_order_0 : decode b_Br_order 0 = .ok (.iload_n 1, 1) := by decide +kernel
theorem d_Br_order_1 : decode b_Br_order 1 = .ok (.ifCond .lt 14, 3) := by decide +kernel
theorem d_Br_order_4 : decode b_Br_order 4 = .ok (.iload_n 1, 1) := by decide +kernel
theorem d_Br_order_5 : decode b_Br_order 5 = .ok (.aload_n 0, 1) := by decide +kernel
theorem d_Br_order_6 : decode b_Br_order 6 = .ok (.getfield 28, 3) := by decide +kernel
theorem d_Br_order_9 : decode b_Br_order 9 = .ok (.invokevirtual 45, 3) := by decide +kernel
theorem d_Br_order_12 : decode b_Br_order 12 = .ok (.if_icmp .lt 13, 3) := by decide +kernel
theorem d_Br_order_15 : decode b_Br_order 15 = .ok (.new 135, 3) := by decide +kernel
theorem d_Br_order_18 : decode b_Br_order 18 = .ok (.dup, 1) := by decide +kernel
theorem d_Br_order_19 : decode b_Br_order 19 = .ok (.ldc 215, 2) := by decide +kernel
theorem d_Br_order_21 : decode b_Br_order 21 = .ok (.invokespecial 139, 3) := by decide +kernel
theorem d_Br_order_24 : decode b_Br_order 24 = .ok (.athrow, 1) := by decide +kernel
theorem d_Br_order_25 : decode b_Br_order 25 = .ok (.aload_n 0, 1) := by decide +kernel
theorem d_Br_order_26 : decode b_Br_order 26 = .ok (.getfield 28, 3) := by decide +kernel
theorem d_Br_order_29 : decode b_Br_order 29 = .ok (.iload_n 1, 1) := by decide +kernel
theorem d_Br_order_30 : decode b_Br_order 30 = .ok (.invokevirtual 140, 3) := by decide +kernel
theorem d_Br_order_33 : decode b_Br_order 33 = .ok (.checkcast 109, 3) := by decide +kernel
theorem d_Br_order_36 : decode b_Br_order 36 = .ok (.getfield 116, 3) := by decide +kernel
theorem d_Br_order_39 : decode b_Br_order 39 = .ok (.ireturn, 1) := by decide +kernel
abbrev b_Br_mean : ByteArray := prog_1_method_18_code
abbrev n_Br_mean : MethodName := ⟨"BeltRows", "mean", "()I"⟩
theorem d_Br_mean_0 : decode b_Br_mean 0 = .ok (.aload_n 0, 1) := by decide +kernel
theorem d_Br_mean_1 : decode b_Br_mean 1 = .ok (.getfield 28, 3) := by decide +kernel
theorem d_Br_mean_4 : decode b_Br_mean 4 = .ok (.invokevirtual 45, 3) := by decide +kernel
theorem d_Br_mean_7 : decode b_Br_mean 7 = .ok (.istore_n 1, 1) := by decide +kernel
theorem d_Br_mean_8 : decode b_Br_mean 8 = .ok (.iload_n 1, 1) := by decide +kernel
theorem d_Br_mean_9 : decode b_Br_mean 9 = .ok (.ifCond .ne 13, 3) := by decide +kernel
theorem d_Br_mean_12 : decode b_Br_mean 12 = .ok (.new 217, 3) := by decide +kernel
theorem d_Br_mean_15 : decode b_Br_mean 15 = .ok (.dup, 1) := by decide +kernel
theorem d_Br_mean_16 : decode b_Br_mean 16 = .ok (.ldc 219, 2) := by decide +kernel
theorem d_Br_mean_18 : decode b_Br_mean 18 = .ok (.invokespecial 221, 3) := by decide +kernel
theorem d_Br_mean_21 : decode b_Br_mean 21 = .ok (.athrow, 1) := by decide +kernel
theorem d_Br_mean_22 : decode b_Br_mean 22 = .ok (.aload_n 0, 1) := by decide +kernel
theorem d_Br_mean_23 : decode b_Br_mean 23 = .ok (.getfield 38, 3) := by decide +kernel
theorem d_Br_mean_26 : decode b_Br_mean 26 = .ok (.iload_n 1, 1) := by decide +kernel
theorem d_Br_mean_27 : decode b_Br_mean 27 = .ok (.idiv, 1) := by decide +kernel
theorem d_Br_mean_28 : decode b_Br_mean 28 = .ok (.ireturn, 1) := by decide +kernel
